/** Edges of the first terms and of promises 1, 2, 3 and 22: a new object, person, away, about. */
final class EdgePeople {
    private static final int[] LOW = {0, 50, 0, 0, 1};
    private static final int[] HIGH = {99, 230, 65535, 3, 30};

    private EdgePeople() {
    }

    static void all() {
        Edge.test(Edge.TERMS, "PEOPLE (at most 40, numbered from 0 on)", EdgePeople::numberedFromNothing);
        Edge.test(Edge.TERMS, "AGE (0 to 99)", () -> markBetween(0));
        Edge.test(Edge.TERMS, "TALL (50 to 230)", () -> markBetween(1));
        Edge.test(Edge.TERMS, "LOOKS (16 bits)", EdgePeople::sixteenBits);
        Edge.test(Edge.TERMS, "HOME (0 to 3)", () -> markBetween(3));
        Edge.test(Edge.TERMS, "SLOW (1 to 30 minutes to be dressed)", EdgePeople::slowFromOneToThirty);
        Edge.test(Edge.TERMS, "AWAY or not; TURNS (0 at first), FREE (a minute of all time, 0 at first)",
                EdgePeople::nothingAtFirst);
        Edge.test(Edge.TERMS, "DAYS are numbered from 0 on; minute m of DAY d is minute 1440 d + m of all time",
                EdgePeople::daysFromNothing);
        Edge.test(Edge.TERMS, "SCENES are numbered 0 to 19", EdgePeople::scenesToNineteen);
        Edge.test(Edge.TERMS, "FACTS, numbered from 0 on as they are told", EdgePeople::factsFromNothing);
        Edge.test(1, "No PEOPLE, ASKS, FACTS, AGREEMENTS; DAY 0; an empty TAPE.", EdgePeople::newObject);
        Edge.test(1, "No PEOPLE, ASKS, FACTS, AGREEMENTS; DAY 0; an empty TAPE.", EdgePeople::newObjectsAreApart);
        Edge.test(2, "A new PERSON: their number", EdgePeople::firstAndLastNumber);
        Edge.test(2, "NONE: there are 40", EdgePeople::fortyFirst);
        Edge.test(2, "numbers are not as told (looks 0 to 65535)", EdgePeople::numbersNotAsTold);
        Edge.test(2, "numbers are not as told (looks 0 to 65535)", () -> markBetween(2));
        Edge.test(3, "A PERSON is AWAY, or not; the PLAN stays.", EdgePeople::awayAndBack);
        Edge.test(3, "False: no such one, or CALLED.", EdgePeople::awayOfNobody);
        Edge.test(3, "False: no such one, or CALLED.", EdgePeople::awayOfCalled);
        Edge.test(22, "Of a PERSON what 0 AGE, 1 TALL, 2 LOOKS, 3 HOME, 4 SLOW, 5 AWAY (1, 0), 6 TURNS, 7 FREE.",
                EdgePeople::aboutFirstAndLast);
        Edge.test(22, "NONE: no such one.", EdgePeople::aboutNobody);
        Edge.test(22, "NONE: no such one.", EdgePeople::aboutNothing);
    }

    private static void numberedFromNothing() {
        ExtrasOffice x = new ExtrasOffice();
        for (int p = 0; p < 40; p++) {
            Check.due("count(0)", x.count(0), p);
            Check.due("called of one who is still to come", x.away(p, false), false);
            Check.due("person", x.person(30, 170, 0, 0, 5), p);
            Check.due("away of the newest", x.away(p, false), true);
        }
        Check.due("count(0)", x.count(0), 40);
    }

    /** The lowest and the highest are taken and told again; those beside them are refused. */
    private static void markBetween(int mark) {
        ExtrasOffice x = new ExtrasOffice();
        Check.due("one below the lowest mark " + mark, person(x, mark, LOW[mark] - 1), -1);
        Check.due("the lowest mark " + mark, person(x, mark, LOW[mark]), 0);
        Check.due("the highest mark " + mark, person(x, mark, HIGH[mark]), 1);
        Check.due("one above the highest mark " + mark, person(x, mark, HIGH[mark] + 1), -1);
        Check.due("the least number there is", person(x, mark, Edge.LEAST), -1);
        Check.due("the highest number there is", person(x, mark, Edge.HIGHEST), -1);
        Check.due("about the lowest", x.about(0, mark), LOW[mark]);
        Check.due("about the highest", x.about(1, mark), HIGH[mark]);
        Check.due("count(0)", x.count(0), 2);
    }

    private static long person(ExtrasOffice x, int mark, int number) {
        int[] marks = {30, 170, 5, 1, 5};
        marks[mark] = number;
        return x.person(marks[0], marks[1], marks[2], marks[3], marks[4]);
    }

    private static void sixteenBits() {
        markBetween(2);
        ExtrasOffice x = new ExtrasOffice();
        x.person(30, 170, 1, 0, 5);
        x.person(30, 170, 1 << 15, 0, 5);
        Check.asks(x, "scene 0 at 0 for 1 want 1: look 0; scene 0 at 0 for 1 want 1: look 15;");
        Check.due("bit 0 is look 0", x.fits(0, 0, 0), 1);
        Check.due("bit 0 is not look 15", x.fits(0, 1, 0), 0);
        Check.due("bit 15 is look 15", x.fits(1, 1, 0), 1);
        Check.due("bit 15 is not look 0", x.fits(1, 0, 0), 0);
    }

    private static void slowFromOneToThirty() {
        markBetween(4);
        for (int slow : new int[] {1, 30}) {
            ExtrasOffice x = new ExtrasOffice();
            x.person(30, 170, 0, 0, slow);
            Check.asks(x, "scene 0 at 0 for 1 want 1: anyone;");
            x.lay();
            x.step(1, 0);
            Check.due("minutes to be dressed", x.record(0, 0, 2) - x.record(0, 0, 1), slow);
        }
    }

    private static void nothingAtFirst() {
        ExtrasOffice x = Office.of(1);
        Check.due("AWAY", x.about(0, 5), 0);
        Check.due("TURNS", x.about(0, 6), 0);
        Check.due("FREE", x.about(0, 7), 0);
        Check.asks(x, "scene 0 at 0 for 1 want 1: anyone;");
        Check.due("FREE at minute 0 of DAY 0", x.fits(0, 0, 1), 1);
    }

    private static void daysFromNothing() {
        ExtrasOffice x = Office.of(2);
        Check.due("the first DAY", x.count(4), 0);
        Check.asks(x, "scene 0 at 1439 for 600 want 1: anyone;");
        x.lay();
        int sent = x.step(1, 0);
        Check.due("its RECORD", x.record(0, 0, 4), sent);
        Check.due("FREE, of all time", x.about(0, 7), sent + 660);
        Check.due("the next DAY", x.count(4), 1);
        int minute = sent + 660 - 1440;
        Check.due("not FREE a minute ahead", x.retake(0, minute - 1), 1);
        Check.due("FREE at the minute of this DAY", x.retake(0, minute), 0);
        x.away(0, true);
        Check.asks(x, "scene 0 at 0 for 1 want 1: anyone;");
        x.lay();
        sent = x.step(1, 0);
        Check.due("FREE of one of DAY 1", x.about(1, 7), 1440 + sent + 660);
    }

    private static void scenesToNineteen() {
        ExtrasOffice x = Office.of(1);
        int[] none = {-1, 20, Edge.LEAST, Edge.HIGHEST};
        for (int scene : none) {
            Check.due("tell of SCENE " + scene, x.tell(0, scene), -1);
            Check.due("seen in SCENE " + scene, Check.seen(x, 0, scene, 0), -7);
            Check.due("retake of SCENE " + scene, x.retake(scene, 0), -1);
        }
        for (int scene : new int[] {0, 19}) {
            Check.due("tell of SCENE " + scene, x.tell(0, scene) >= 0, true);
            Check.due("seen in SCENE " + scene, Check.seen(x, 0, scene, x.count(3)), 1);
            Check.due("retake of SCENE " + scene, x.retake(scene, 0), 0);
            Check.due("an ASK of SCENE " + scene, Check.asks(x, "scene " + scene + " at 0 for 1 want 1: anyone;"), 1);
            Check.due("its SCENE", x.ask(0, 0), scene);
            Check.due("an ASK of those seen", Check.asks(x, "scene 0 at 0 for 1 want 1: seen " + scene + ";"), 1);
            Check.due("SEEN in it", x.fits(0, 0, 0), 1);
        }
    }

    private static void factsFromNothing() {
        ExtrasOffice x = Office.of(3);
        Check.due("the first", x.tell(2, 7), 0);
        Check.due("the second", x.tell(2, 7), 1);
        Check.asks(x, "scene 7 at 0 for 1 want 2: anyone;");
        x.lay();
        x.step(1, 0);
        Check.due("behind two of the DAY", x.tell(2, 7), 4);
        Check.due("the facts before the DAY", Check.seen(x, 0, 7, 2), 0);
        Check.due("the lesser PERSON's fact is number 2", Check.seen(x, 0, 7, 3), 1);
        Check.due("the other's is not yet", Check.seen(x, 1, 7, 3), 0);
        Check.due("the other's is number 3", Check.seen(x, 1, 7, 4), 1);
    }

    private static void newObject() {
        ExtrasOffice x = new ExtrasOffice();
        for (int what = 0; what <= 7; what++) {
            Check.due("count(" + what + ")", x.count(what), 0);
        }
        Check.due("place()", x.place(), -1);
        Check.due("called(0)", x.called(0), -1);
        Check.due("away(0, true)", x.away(0, true), false);
        Check.due("fits(0, 0, 0)", x.fits(0, 0, 0), -1);
        Check.due("lay()", x.lay(), -1);
        Check.due("no(0)", x.no(0), -1);
        Check.due("moved(0)", x.moved(0), -1);
        Check.due("step(1, 0)", x.step(1, 0), -1);
        Check.due("record(0, 0, 0)", x.record(0, 0, 0), -1);
        Check.due("tell(0, 0)", x.tell(0, 0), -1);
        Check.due("seen(0, 0, 0)", Check.seen(x, 0, 0, 0), -7);
        Check.due("lacks(0)", x.lacks(0), -1);
        Check.due("retake(0, 0)", x.retake(0, 0), 0);
        Check.due("buses(0, 1)", x.buses(0, 1), 0);
        Check.due("ask(0, 0)", x.ask(0, 0), -1);
        Check.due("about(0, 0)", x.about(0, 0), -1);
        Check.due("pay(0, 0, 0)", x.pay(0, 0, 0), 0);
        Check.due("end(1)", x.end(1), -1);
        Check.due("end(0)", x.end(0), 0);
        Check.due("asks() of the empty TAPE", x.asks(), 0);
        Check.due("agree() of the empty TAPE", x.agree(), 0);
        Check.due("person", x.person(30, 170, 0, 0, 5), 0);
    }

    private static void newObjectsAreApart() {
        ExtrasOffice one = Office.busy();
        ExtrasOffice other = new ExtrasOffice();
        Check.due("people of a second object", other.count(0), 0);
        Check.due("asks of a second object", other.count(1), 0);
        Check.due("facts of a second object", other.count(3), 0);
        Check.due("the tape of a second object", other.count(6), 0);
        Check.due("a person there", other.person(30, 170, 0, 0, 5), 0);
        Check.due("people of the first object", one.count(0), 4);
    }

    private static void firstAndLastNumber() {
        ExtrasOffice x = new ExtrasOffice();
        Check.due("the first", x.person(1, 51, 1, 1, 2), 0);
        Check.due("one refused takes no number", x.person(-1, 51, 1, 1, 2), -1);
        Check.due("the second", x.person(2, 52, 2, 2, 3), 1);
        for (int p = 2; p < 39; p++) {
            x.person(30, 170, 0, 0, 5);
        }
        Check.due("the last", x.person(98, 229, 65534, 3, 29), 39);
        Check.due("about the last", x.about(39, 2), 65534);
        Check.due("about the first", x.about(0, 1), 51);
    }

    private static void fortyFirst() {
        ExtrasOffice x = Office.of(39);
        Check.due("the fortieth", x.person(30, 170, 0, 0, 5), 39);
        Check.due("a forty-first", x.person(30, 170, 0, 0, 5), -1);
        Check.due("count(0)", x.count(0), 40);
        Check.due("about a forty-first", x.about(40, 0), -1);
        Office.refusesIn(() -> Office.of(40), "person of forty", -1, y -> y.person(31, 171, 1, 1, 6));
    }

    private static void numbersNotAsTold() {
        for (int mark = 0; mark < 5; mark++) {
            int at = mark;
            Office.refuses("mark " + mark + " below", -1, x -> person(x, at, LOW[at] - 1));
            Office.refuses("mark " + mark + " above", -1, x -> person(x, at, HIGH[at] + 1));
        }
        Office.refuses("marks all wrong", -1, x -> x.person(-1, 49, -1, -1, 0));
    }

    private static void awayAndBack() {
        ExtrasOffice x = Office.busy();
        Check.due("called(1)", x.called(1), 0);
        Check.due("away of 0", x.away(0, true), true);
        Check.due("about", x.about(0, 5), 1);
        Check.due("away of 0 again", x.away(0, true), true);
        Check.due("about", x.about(0, 5), 1);
        Check.due("back", x.away(0, false), true);
        Check.due("about", x.about(0, 5), 0);
        Check.due("back again", x.away(0, false), true);
        Check.due("about", x.about(0, 5), 0);
        Check.due("called(0)", x.called(0), -1);
        Check.due("called(1) as it was", x.called(1), 0);
        Check.due("called(2) as it was", x.called(2), 1);
        Check.due("count(5)", x.count(5), 2);
        Check.due("count(1)", x.count(1), 2);
        ExtrasOffice y = Office.of(40);
        Check.due("away of the last one", y.away(39, true), true);
        Check.due("about", y.about(39, 5), 1);
    }

    private static void awayOfNobody() {
        for (int p : new int[] {-1, 4, Edge.LEAST, Edge.HIGHEST}) {
            Office.refuses("away(" + p + ", true)", 0, x -> x.away(p, true) ? 1 : 0);
            Office.refuses("away(" + p + ", false)", 0, x -> x.away(p, false) ? 1 : 0);
        }
        Check.due("away(0, true) without people", new ExtrasOffice().away(0, true), false);
        Check.due("away(40, true) of forty", Office.of(40).away(40, true), false);
    }

    private static void awayOfCalled() {
        for (int p : new int[] {1, 2}) {
            Office.refuses("away(" + p + ", true) of a CALLED one", 0, x -> x.away(p, true) ? 1 : 0);
            Office.refuses("away(" + p + ", false) of a CALLED one", 0, x -> x.away(p, false) ? 1 : 0);
        }
        ExtrasOffice x = Office.busy();
        x.no(1);
        Check.due("away of one who was CALLED", x.away(1, false), true);
        x.asks();
        Check.due("away of one of the ASKS before", x.away(2, true), true);
    }

    private static void aboutFirstAndLast() {
        ExtrasOffice x = new ExtrasOffice();
        x.person(0, 50, 0, 0, 1);
        for (int p = 1; p < 39; p++) {
            x.person(30, 170, 7, 1, 5);
        }
        x.person(99, 230, 65535, 3, 30);
        x.away(39, true);
        int[] first = {0, 50, 0, 0, 1, 0, 0, 0};
        int[] last = {99, 230, 65535, 3, 30, 1, 0, 0};
        for (int what = 0; what <= 7; what++) {
            Check.due("about(0, " + what + ")", x.about(0, what), first[what]);
            Check.due("about(39, " + what + ")", x.about(39, what), last[what]);
        }
        Check.asks(x, "scene 0 at 0 for 1 want 1: anyone;");
        x.lay();
        int sent = x.step(1, 0);
        Check.due("TURNS behind a DAY", x.about(0, 6), 1);
        Check.due("FREE behind a DAY", x.about(0, 7), sent + 660);
        Check.due("TURNS of another one", x.about(1, 6), 0);
        Check.due("FREE of another one", x.about(1, 7), 0);
    }

    private static void aboutNobody() {
        for (int p : new int[] {-1, 4, Edge.LEAST, Edge.HIGHEST}) {
            Office.refuses("about(" + p + ", 0)", -1, x -> x.about(p, 0));
        }
        Check.due("about(0, 0) without people", new ExtrasOffice().about(0, 0), -1);
        Check.due("about(40, 4) of forty", Office.of(40).about(40, 4), -1);
    }

    private static void aboutNothing() {
        for (int what : new int[] {-1, 8, Edge.LEAST, Edge.HIGHEST}) {
            Office.refuses("about(0, " + what + ")", -1, x -> x.about(0, what));
        }
    }
}
