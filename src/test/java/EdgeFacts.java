/** Edges of FACTS and retakes, promises 16 to 19: tell, seen, retake, lacks. */
final class EdgeFacts {
    private static final int[] NO_SCENES = {-1, 20, Edge.LEAST, Edge.HIGHEST};
    private static final int[] NO_PEOPLE = {-1, 4, Edge.LEAST, Edge.HIGHEST};

    private EdgeFacts() {
    }

    static void all() {
        Edge.test(16, "A FACT is told: its number.", EdgeFacts::firstAndLastFact);
        Edge.test(16, "NONE: no such PERSON, SCENE, or 200 were told so.", EdgeFacts::tellOfNothing);
        Edge.test(16, "NONE: no such PERSON, SCENE, or 200 were told so.", EdgeFacts::twoHundred);
        Edge.test(16, "NONE: no such PERSON, SCENE, or 200 were told so.", EdgeFacts::factsOfDaysDoNotCount);
        Edge.test(17, "How many of the first n FACTS tell that a PERSON was SEEN in a SCENE.", EdgeFacts::ofTheFirst);
        Edge.test(17, "NoSuchElementException: no such PERSON, SCENE, n.", EdgeFacts::seenOfNothing);
        Edge.test(18, "A retake of a SCENE at a minute of the DAY at hand: how many of those SEEN in it are AWAY, or not "
                + "FREE by then: these LACK.", EdgeFacts::awayOrNotFree);
        Edge.test(18, "how many of those SEEN in it are AWAY, or not FREE by then", EdgeFacts::noneToForty);
        Edge.test(18, "NONE: no such SCENE, minute (0 to 1439).", EdgeFacts::noSuchRetake);
        Edge.test(19, "The i-th (by their numbers) who LACK of the latest retake() that was not NONE.", EdgeFacts::byTheirNumbers);
        Edge.test(19, "NONE: none such.", EdgeFacts::lacksNobody);
    }

    private static void firstAndLastFact() {
        ExtrasOffice x = Office.of(40);
        Check.due("the first", x.tell(0, 0), 0);
        Check.due("the same again is another one", x.tell(0, 0), 1);
        Check.due("of the last PERSON and SCENE", x.tell(39, 19), 2);
        Check.due("one refused takes no number", x.tell(40, 19), -1);
        for (int n = 3; n < 199; n++) {
            x.tell(5, 5);
        }
        Check.due("the last", x.tell(39, 0), 199);
        Check.due("seen", Check.seen(x, 39, 0, 200), 1);
        Check.due("seen", Check.seen(x, 39, 0, 199), 0);
        Check.due("seen", Check.seen(x, 5, 5, 200), 196);
    }

    private static void tellOfNothing() {
        for (int p : NO_PEOPLE) {
            Office.refuses("tell(" + p + ", 0)", -1, x -> x.tell(p, 0));
        }
        for (int scene : NO_SCENES) {
            Office.refuses("tell(0, " + scene + ")", -1, x -> x.tell(0, scene));
        }
        Check.due("without people", new ExtrasOffice().tell(0, 0), -1);
        Check.due("tell(40, 0) of forty", Office.of(40).tell(40, 0), -1);
    }

    private static ExtrasOffice toldOften(int times) {
        ExtrasOffice x = Office.of(2);
        for (int n = 0; n < times; n++) {
            x.tell(0, 2);
        }
        return x;
    }

    private static void twoHundred() {
        ExtrasOffice x = toldOften(199);
        Check.due("the two-hundredth", x.tell(1, 3), 199);
        Check.due("one more", x.tell(1, 4), -1);
        Check.due("count(3)", x.count(3), 200);
        Check.due("SEEN by the last", Check.seen(x, 1, 3, 200), 1);
        Check.due("not SEEN by one more", Check.seen(x, 1, 4, 200), 0);
        Check.due("nobody was SEEN in it", x.retake(4, 0), 0);
        Office.refusesIn(() -> toldOften(200), "tell() of two hundred", -1, y -> y.tell(1, 4));
    }

    private static void factsOfDaysDoNotCount() {
        ExtrasOffice x = toldOften(199);
        Check.asks(x, "scene 7 at 0 for 1 want 2: anyone;");
        x.lay();
        x.step(1, 0);
        Check.due("count(3)", x.count(3), 201);
        Check.due("the two-hundredth told so", x.tell(1, 3), 201);
        Check.due("one more", x.tell(1, 3), -1);
        Check.asks(x, "scene 7 at 1439 for 1 want 2: anyone;");
        x.lay();
        x.step(1, 0);
        Check.due("DAYS tell on", x.count(3), 204);
        Check.due("SEEN by the last", Check.seen(x, 1, 7, 204), 2);
        Check.due("SEEN ahead of the last", Check.seen(x, 1, 7, 203), 1);
        Check.due("and one more", x.tell(1, 3), -1);
    }

    private static void ofTheFirst() {
        ExtrasOffice x = Office.of(3);
        Check.due("of no FACTS", Check.seen(x, 0, 0, 0), 0);
        x.tell(0, 19);
        x.tell(1, 19);
        x.tell(0, 0);
        x.tell(0, 19);
        int[] due = {0, 1, 1, 1, 2};
        for (int n = 0; n <= 4; n++) {
            Check.due("seen(0, 19, " + n + ")", Check.seen(x, 0, 19, n), due[n]);
            Check.due("seen(0, 0, " + n + ")", Check.seen(x, 0, 0, n), n >= 3 ? 1 : 0);
            Check.due("seen(1, 19, " + n + ")", Check.seen(x, 1, 19, n), n >= 2 ? 1 : 0);
            Check.due("seen(2, 19, " + n + ")", Check.seen(x, 2, 19, n), 0);
        }
        ExtrasOffice y = toldOften(200);
        Check.due("of all", Check.seen(y, 0, 2, 200), 200);
        Check.due("of all but one", Check.seen(y, 0, 2, 199), 199);
    }

    private static void seenOfNothing() {
        for (int p : NO_PEOPLE) {
            Office.refuses("seen(" + p + ", 2, 0)", -7, x -> Check.seen(x, p, 2, 0));
        }
        for (int scene : NO_SCENES) {
            Office.refuses("seen(0, " + scene + ", 0)", -7, x -> Check.seen(x, 0, scene, 0));
        }
        int facts = Office.busy().count(3);
        for (int n : new int[] {-1, facts + 1, Edge.LEAST, Edge.HIGHEST}) {
            Office.refuses("seen(0, 2, " + n + ")", -7, x -> Check.seen(x, 0, 2, n));
        }
        Check.due("of all FACTS", Check.seen(Office.busy(), 0, 2, facts), 1);
        ExtrasOffice x = Office.of(1);
        Check.due("of a FACT that is still to come", Check.seen(x, 0, 2, 1), -7);
        x.tell(0, 2);
        Check.due("of it", Check.seen(x, 0, 2, 1), 1);
        Check.due("without people", Check.seen(new ExtrasOffice(), 0, 0, 0), -7);
        Check.due("of 201", Check.seen(toldOften(200), 0, 2, 201), -7);
    }

    private static void awayOrNotFree() {
        ExtrasOffice x = Office.of(3);
        Check.asks(x, "scene 2 at 1439 for 600 want 1: anyone;");
        x.lay();
        int minute = x.step(1, 0) + 660 - 1440;
        x.tell(1, 2);
        Check.due("not FREE a minute ahead", x.retake(2, minute - 1), 1);
        Check.due("lacks(0)", x.lacks(0), 0);
        Check.due("FREE at the minute", x.retake(2, minute), 0);
        Check.due("lacks(0)", x.lacks(0), -1);
        Check.due("minute 0", x.retake(2, 0), 1);
        Check.due("minute 1439", x.retake(2, 1439), 0);
        x.away(0, true);
        x.away(2, true);
        Check.due("AWAY, and FREE", x.retake(2, minute), 1);
        Check.due("AWAY, and not FREE", x.retake(2, minute - 1), 1);
        Check.due("lacks(0)", x.lacks(0), 0);
        Check.due("lacks(1)", x.lacks(1), -1);
        x.away(1, true);
        Check.due("told by tell()", x.retake(2, minute), 2);
        Check.due("nobody was SEEN in it", x.retake(3, 0), 0);
    }

    private static void noneToForty() {
        Check.due("of nobody", new ExtrasOffice().retake(0, 0), 0);
        ExtrasOffice x = Office.of(40);
        Check.due("nobody was SEEN", x.retake(19, 0), 0);
        for (int p = 0; p < 40; p++) {
            x.tell(p, 19);
            x.tell(p, 19);
        }
        Check.due("all are here", x.retake(19, 0), 0);
        for (int p = 0; p < 40; p++) {
            x.away(p, true);
        }
        Check.due("all are AWAY", x.retake(19, 0), 40);
        for (int p = 0; p < 40; p++) {
            Check.due("lacks(" + p + ")", x.lacks(p), p);
        }
        Check.due("lacks(40)", x.lacks(40), -1);
        Check.due("nobody was SEEN in another one", x.retake(18, 0), 0);
    }

    private static void noSuchRetake() {
        for (int scene : NO_SCENES) {
            Office.refuses("retake(" + scene + ", 0)", -1, x -> x.retake(scene, 0));
        }
        for (int minute : new int[] {-1, 1440, Edge.LEAST, Edge.HIGHEST}) {
            Office.refuses("retake(2, " + minute + ")", -1, x -> x.retake(2, minute));
        }
        Check.due("retake(20, 0) of a new object", new ExtrasOffice().retake(20, 0), -1);
        Check.due("retake(0, 1440) of a new object", new ExtrasOffice().retake(0, 1440), -1);
        Check.due("retake(0, 1439) of a new object", new ExtrasOffice().retake(0, 1439), 0);
        Check.due("retake(19, 0) of a new object", new ExtrasOffice().retake(19, 0), 0);
    }

    private static void byTheirNumbers() {
        ExtrasOffice x = Office.of(40);
        x.tell(39, 2);
        x.tell(20, 2);
        x.tell(0, 2);
        x.tell(7, 3);
        for (int p : new int[] {39, 0, 20, 7}) {
            x.away(p, true);
        }
        Check.due("ahead of all", x.lacks(0), -1);
        Check.due("retake", x.retake(2, 0), 3);
        Check.due("lacks(0)", x.lacks(0), 0);
        Check.due("lacks(1)", x.lacks(1), 20);
        Check.due("lacks(2)", x.lacks(2), 39);
        Check.due("lacks(3)", x.lacks(3), -1);
        Check.due("a retake() that is NONE", x.retake(2, 1440), -1);
        Check.due("those who LACK stay", x.lacks(2), 39);
        Check.due("a retake() that is NONE", x.retake(20, 0), -1);
        Check.due("those who LACK stay", x.lacks(0), 0);
        x.away(0, false);
        Check.due("those who LACKED then", x.lacks(0), 0);
        Check.asks(x, "scene 5 at 0 for 1 want 1: anyone;");
        x.lay();
        x.tell(1, 2);
        x.step(1, 0);
        Check.due("those who LACKED then, a DAY later", x.lacks(2), 39);
        Check.due("a lesser retake", x.retake(3, 0), 1);
        Check.due("lacks(0)", x.lacks(0), 7);
        Check.due("it leaves nothing of the longer one", x.lacks(1), -1);
        Check.due("a retake of nobody", x.retake(4, 0), 0);
        Check.due("it leaves nothing", x.lacks(0), -1);
    }

    private static void lacksNobody() {
        Check.due("of a new object", new ExtrasOffice().lacks(0), -1);
        for (int i : new int[] {-1, 1, 40, Edge.LEAST, Edge.HIGHEST}) {
            Office.refuses("lacks(" + i + ")", -1, x -> x.lacks(i));
        }
        Check.due("the one there is", Office.busy().lacks(0), 1);
    }
}
