/** Edges of PLANS and of promises 10 to 13 and 20: lay, called, no, moved, buses. */
final class EdgePlans {
    private EdgePlans() {
    }

    static void all() {
        who();
        laid();
        mended();
        Edge.test(10, "The PLAN is LAID anew: how many are CALLED.", EdgePlans::laidAnew);
        Edge.test(10, "NONE: there are no ASKS.", EdgePlans::noAsks);
        Edge.test(11, "The ASK in which a PERSON is CALLED.", EdgePlans::calledFirstAndLast);
        Edge.test(11, "NONE: none, no such one.", EdgePlans::calledNobody);
        Edge.test(12, "A CALLED PERSON says no: how many PEOPLE the row has by which it is MENDED; 0: there is none.",
                EdgePlans::noAndNobodyIsThere);
        Edge.test(12, "NONE: they are not CALLED.", EdgePlans::noOfOneNotCalled);
        Edge.test(13, "The i-th PERSON of the row of the latest no() that was not NONE.", EdgePlans::movedOfTheLatest);
        Edge.test(13, "NONE: none such.", EdgePlans::movedNobody);
        Edge.test(20, "How many buses of so many seats (1 to 100) those CALLED from a HOME need.", EdgePlans::seatsToTheLast);
        Edge.test(20, "NONE: no such HOME, seats.", EdgePlans::noSuchBuses);
    }

    private static void who() {
        Edge.test(Edge.TERMS, "they CAN be in it if they FIT, are not AWAY, and FREE is not above the minute of its CALL "
                + "on the DAY at hand.", EdgePlans::freeAtTheMinute);
        Edge.test(Edge.TERMS, "they CAN be in it if they FIT, are not AWAY, and FREE is not above the minute of its CALL "
                + "on the DAY at hand.", EdgePlans::fitAndHere);
        Edge.test(Edge.TERMS, "PEOPLE CALLED, each in one ASK that they CAN be in, in each ASK at most as many as it WANTS.",
                EdgePlans::atMostAsItWants);
        Edge.test(Edge.TERMS, "PEOPLE CALLED, each in one ASK that they CAN be in, in each ASK at most as many as it WANTS.",
                EdgePlans::asManyAsThereMayBe);
    }

    private static void laid() {
        Edge.test(Edge.TERMS, "LAID: of all PLANS those that CALL the most", EdgePlans::theMost);
        Edge.test(Edge.TERMS, "of these those whose CALLED have the fewest TURNS together", EdgePlans::fewestTurns);
        Edge.test(Edge.TERMS, "of these those that CALL the least one of those PEOPLE whom one alone of two CALLS",
                EdgePlans::theLeastOne);
        Edge.test(Edge.TERMS, "of these the one where the first PERSON that is in unlike ASKS is in the lesser one.",
                EdgePlans::inTheLesserAsk);
    }

    private static void mended() {
        Edge.test(Edge.TERMS, "A CALLED one who says no is AWAY, and CALLED no more; their ASK lacks one.",
                EdgePlans::awayAndCalledNoMore);
        Edge.test(Edge.TERMS, "a row of PEOPLE x1 .. xk, no one twice, none of them the one who said no",
                EdgePlans::longestRow);
        Edge.test(Edge.TERMS, "x1 CAN be in that ASK, and is not in it", EdgePlans::notOneWhoIsInIt);
        Edge.test(Edge.TERMS, "if x1 is CALLED, they leave their ASK for it, and x2 CAN be in the one they left, "
                + "and is not in it (as the PLAN was), and so on", EdgePlans::rowOfTwo);
        Edge.test(Edge.TERMS, "xk is not CALLED till then.", EdgePlans::rowOfOne);
        Edge.test(Edge.TERMS, "Of all such rows the shortest", EdgePlans::shortestRow);
        Edge.test(Edge.TERMS, "of these the first (the lesser PERSON where they first differ)", EdgePlans::firstRow);
        Edge.test(Edge.TERMS, "Without any, the PLAN has one less.", EdgePlans::oneLess);
    }

    /** People with these LOOKS. */
    private static ExtrasOffice looking(int... looks) {
        ExtrasOffice x = new ExtrasOffice();
        for (int each : looks) {
            x.person(30, 170, each, 0, 5);
        }
        return x;
    }

    /** ASKS that WANT so many each: those of look 0, of look 1, and so on. */
    private static void lookAsks(ExtrasOffice x, int... wants) {
        StringBuilder text = new StringBuilder();
        for (int a = 0; a < wants.length; a++) {
            text.append("scene 0 at 900 for 1 want ").append(wants[a]).append(": look ").append(a).append(";");
        }
        Check.due("asks()", Check.asks(x, text.toString()), wants.length);
    }

    private static void calledAre(ExtrasOffice x, int... asks) {
        for (int p = 0; p < asks.length; p++) {
            Check.due("called(" + p + ")", x.called(p), asks[p]);
        }
    }

    private static void rowIs(ExtrasOffice x, int said, int... row) {
        Check.due("no(" + said + ")", x.no(said), row.length);
        for (int i = 0; i < row.length; i++) {
            Check.due("moved(" + i + ")", x.moved(i), row[i]);
        }
        Check.due("moved behind the row", x.moved(row.length), -1);
    }

    private static void freeAtTheMinute() {
        ExtrasOffice x = Office.of(1);
        Check.asks(x, "scene 0 at 1439 for 600 want 1: anyone;");
        x.lay();
        int free = x.step(1, 0) + 660;
        Check.due("FREE", x.about(0, 7), free);
        int minute = free - 1440;
        String text = "scene 0 at " + (minute - 1) + " for 1 want 1: anyone;";
        Check.asks(x, text);
        Check.due("a minute ahead", x.fits(0, 0, 1), 0);
        Check.due("FITS all the same", x.fits(0, 0, 0), 1);
        Check.due("lay()", x.lay(), 0);
        Check.asks(x, "scene 0 at " + minute + " for 1 want 1: anyone;");
        Check.due("at the minute", x.fits(0, 0, 1), 1);
        Check.due("lay()", x.lay(), 1);
        Check.asks(x, "scene 0 at " + (minute + 1) + " for 1 want 1: anyone;");
        Check.due("a minute behind", x.fits(0, 0, 1), 1);
        Check.due("FREE at first, minute 0", freshCan("scene 0 at 0 for 1 want 1: anyone;"), 1);
    }

    private static int freshCan(String text) {
        ExtrasOffice x = Office.of(1);
        Check.asks(x, text);
        return x.fits(0, 0, 1);
    }

    private static void fitAndHere() {
        ExtrasOffice x = looking(1, 0, 1);
        lookAsks(x, 3);
        x.away(2, true);
        int[] fits = {1, 0, 1};
        int[] can = {1, 0, 0};
        for (int p = 0; p < 3; p++) {
            Check.due("fits(" + p + ", 0, 0)", x.fits(p, 0, 0), fits[p]);
            Check.due("fits(" + p + ", 0, 1)", x.fits(p, 0, 1), can[p]);
        }
        Check.due("lay()", x.lay(), 1);
        calledAre(x, 0, -1, -1);
        Check.due("one who is CALLED CAN be in it still", x.fits(0, 0, 1), 1);
        x.away(2, false);
        Check.due("lay()", x.lay(), 2);
        calledAre(x, 0, -1, 0);
    }

    private static void atMostAsItWants() {
        for (int wants = 1; wants <= 8; wants++) {
            for (int people = wants - 1; people <= wants + 1; people++) {
                ExtrasOffice x = Office.of(people);
                Check.asks(x, "scene 0 at 0 for 1 want " + wants + ": anyone;");
                int due = Math.min(wants, people);
                Check.due("lay() of " + people + " where it WANTS " + wants, x.lay(), due);
                Check.due("ask(0, 4)", x.ask(0, 4), due);
                Check.due("called of the last one", x.called(people - 1), people == 0 || people > wants ? -1 : 0);
            }
        }
    }

    private static void asManyAsThereMayBe() {
        ExtrasOffice x = Office.of(40);
        Check.asks(x, "scene 0 at 0 for 1 want 8: anyone;".repeat(6));
        Check.due("lay() of forty with 48 places", x.lay(), 40);
        for (int p = 0; p < 40; p++) {
            Check.due("called(" + p + ")", x.called(p), p / 8);
        }
        Check.due("none is left for the last ASK", x.ask(5, 4), 0);
        ExtrasOffice y = Office.of(40);
        Check.asks(y, "scene 0 at 0 for 1 want 1: anyone;".repeat(6));
        Check.due("lay() of forty with six places", y.lay(), 6);
        for (int p = 0; p < 40; p++) {
            Check.due("called(" + p + ")", y.called(p), p < 6 ? p : -1);
        }
    }

    private static void theMost() {
        ExtrasOffice x = looking(3, 1);
        lookAsks(x, 1, 1);
        Check.due("the lesser one makes room", x.lay(), 2);
        calledAre(x, 1, 0);
        ExtrasOffice y = looking(1, 3, 6, 12, 24, 48, 32);
        lookAsks(y, 1, 1, 1, 1, 1, 1);
        Check.due("all places", y.lay(), 6);
        calledAre(y, 0, 1, 2, 3, 4, 5, -1);
        ExtrasOffice z = looking(3, 6, 12, 24, 48, 32, 1);
        lookAsks(z, 1, 1, 1, 1, 1, 1);
        Check.due("all places", z.lay(), 6);
        calledAre(z, 0, 1, 2, 3, 4, 5, -1);
        ExtrasOffice w = looking(63, 62, 60, 56, 48, 32);
        lookAsks(w, 1, 1, 1, 1, 1, 1);
        Check.due("all places", w.lay(), 6);
        calledAre(w, 0, 1, 2, 3, 4, 5);
        ExtrasOffice v = looking(32, 48, 56, 60, 62, 63);
        lookAsks(v, 1, 1, 1, 1, 1, 1);
        Check.due("all places", v.lay(), 6);
        calledAre(v, 5, 4, 3, 2, 1, 0);
        Check.due("nobody FITS", layOf(looking(2), 1), 0);
        Check.due("nobody is there", layOf(looking(), 1), 0);
    }

    private static int layOf(ExtrasOffice x, int wants) {
        lookAsks(x, wants);
        return x.lay();
    }

    private static void fewestTurns() {
        ExtrasOffice x = looking(1, 1, 1);
        lookAsks(x, 1);
        x.lay();
        calledAre(x, 0, -1, -1);
        x.step(1, 0);
        lookAsks(x, 1);
        x.lay();
        calledAre(x, -1, 0, -1);
        x.step(1, 0);
        lookAsks(x, 2);
        x.lay();
        calledAre(x, 0, -1, 0);
        x.step(1, 0);
        lookAsks(x, 2);
        x.lay();
        calledAre(x, -1, 0, 0);
        // the most come ahead of the fewest TURNS
        ExtrasOffice y = looking(1, 3);
        lookAsks(y, 1);
        y.lay();
        y.step(1, 0);
        lookAsks(y, 1, 1);
        Check.due("lay()", y.lay(), 2);
        calledAre(y, 0, 1);
    }

    private static void theLeastOne() {
        ExtrasOffice x = looking(1, 1, 1, 1);
        lookAsks(x, 2);
        x.lay();
        calledAre(x, 0, 0, -1, -1);
        ExtrasOffice y = looking(2, 3, 1);
        lookAsks(y, 1, 1);
        y.lay();
        calledAre(y, 1, 0, -1);
        // the least one is CALLED even where all others take another ASK for it
        ExtrasOffice z = looking(1, 1, 3, 2);
        lookAsks(z, 1, 2);
        z.lay();
        calledAre(z, 0, -1, 1, 1);
        ExtrasOffice w = Office.of(40);
        Check.asks(w, "scene 0 at 0 for 1 want 1: anyone;");
        for (int p = 0; p < 39; p++) {
            w.away(p, true);
        }
        w.lay();
        Check.due("the last one alone", w.called(39), 0);
        w.away(38, false);
        w.lay();
        Check.due("the last but one", w.called(38), 0);
        Check.due("the last one", w.called(39), -1);
    }

    private static void inTheLesserAsk() {
        ExtrasOffice x = looking(3, 3);
        lookAsks(x, 1, 1);
        x.lay();
        calledAre(x, 0, 1);
        ExtrasOffice y = looking(3, 3, 3);
        lookAsks(y, 2, 2);
        y.lay();
        calledAre(y, 0, 0, 1);
        ExtrasOffice z = looking(7, 1, 7);
        lookAsks(z, 1, 1, 1);
        z.lay();
        calledAre(z, 1, 0, 2);
        ExtrasOffice w = looking(63, 63, 63, 63, 63, 63);
        lookAsks(w, 1, 1, 1, 1, 1, 1);
        w.lay();
        calledAre(w, 0, 1, 2, 3, 4, 5);
        ExtrasOffice v = looking(48, 63, 16);
        lookAsks(v, 1, 1, 1, 1, 1, 1);
        v.lay();
        calledAre(v, 5, 0, 4);
    }

    private static void awayAndCalledNoMore() {
        ExtrasOffice x = looking(1);
        lookAsks(x, 1);
        x.lay();
        Check.due("no(0)", x.no(0), 0);
        Check.due("AWAY", x.about(0, 5), 1);
        Check.due("called(0)", x.called(0), -1);
        Check.due("ask(0, 4)", x.ask(0, 4), 0);
        Check.due("count(5)", x.count(5), 0);
        Check.due("CAN not be in it", x.fits(0, 0, 1), 0);
        Check.due("lay() without them", x.lay(), 0);
        Check.due("they can come back", x.away(0, false), true);
        Check.due("lay() with them", x.lay(), 1);
    }

    /** Each ASK is filled from the next one: six people, one for each ASK there may be. */
    private static void longestRow() {
        ExtrasOffice x = looking(1, 3, 6, 12, 24, 48, 32);
        lookAsks(x, 1, 1, 1, 1, 1, 1);
        Check.due("lay()", x.lay(), 6);
        rowIs(x, 0, 1, 2, 3, 4, 5, 6);
        calledAre(x, -1, 0, 1, 2, 3, 4, 5);
        Check.due("AWAY", x.about(0, 5), 1);
        Check.due("moved(6)", x.moved(6), -1);
        // the other way round there is no row: the one who said no is not in it, though they could be
        ExtrasOffice y = looking(3, 2);
        lookAsks(y, 1, 1);
        Check.due("lay()", y.lay(), 2);
        rowIs(y, 1);
        calledAre(y, 0, -1);
        rowIs(y, 0);
        calledAre(y, -1, -1);
    }

    private static void notOneWhoIsInIt() {
        ExtrasOffice x = looking(1, 1, 1);
        lookAsks(x, 2);
        x.lay();
        rowIs(x, 0, 2);
        calledAre(x, -1, 0, 0);
        rowIs(x, 1);
        calledAre(x, -1, -1, 0);
        // the lesser one is in the ASK that lacks one already
        ExtrasOffice y = looking(1, 3, 2, 2);
        lookAsks(y, 2, 1);
        y.lay();
        calledAre(y, 0, 0, 1, -1);
        rowIs(y, 2, 3);
        ExtrasOffice z = looking(1, 1, 2);
        lookAsks(z, 2, 1);
        z.lay();
        rowIs(z, 2);
        calledAre(z, 0, 0, -1);
    }

    private static void rowOfTwo() {
        ExtrasOffice x = looking(1, 3, 2);
        lookAsks(x, 1, 1);
        x.lay();
        calledAre(x, 0, 1, -1);
        rowIs(x, 0, 1, 2);
        calledAre(x, -1, 0, 1);
        Check.due("ask(0, 4)", x.ask(0, 4), 1);
        Check.due("ask(1, 4)", x.ask(1, 4), 1);
        // x2 may not be one who is in the ASK that x1 left, as the PLAN was
        ExtrasOffice y = looking(1, 3, 2);
        lookAsks(y, 1, 2);
        y.lay();
        calledAre(y, 0, 1, 1);
        rowIs(y, 0);
        calledAre(y, -1, 1, 1);
    }

    private static void rowOfOne() {
        ExtrasOffice x = looking(1, 2, 1);
        lookAsks(x, 1, 1);
        x.lay();
        rowIs(x, 0, 2);
        calledAre(x, -1, 1, 0);
        // the first and the last PERSON there may be
        ExtrasOffice w = Office.of(40);
        for (int p = 0; p < 40; p++) {
            w.away(p, p != 20);
        }
        Check.asks(w, "scene 0 at 0 for 1 want 1: anyone;");
        w.lay();
        w.away(39, false);
        rowIs(w, 20, 39);
        w.away(0, false);
        rowIs(w, 39, 0);
        Check.due("called(0)", w.called(0), 0);
        // one who CAN be in it but is CALLED does not end the row
        ExtrasOffice y = looking(1, 3);
        lookAsks(y, 1, 1);
        y.lay();
        calledAre(y, 0, 1);
        rowIs(y, 0);
        calledAre(y, -1, 1);
        // nor does one who is AWAY, or does not FIT
        ExtrasOffice z = looking(1, 1, 2);
        lookAsks(z, 1);
        z.away(1, true);
        z.lay();
        rowIs(z, 0);
    }

    private static void shortestRow() {
        ExtrasOffice x = looking(1, 3, 2, 1);
        lookAsks(x, 1, 1);
        x.lay();
        calledAre(x, 0, 1, -1, -1);
        rowIs(x, 0, 3);
        calledAre(x, -1, 1, -1, 0);
        ExtrasOffice y = looking(1, 3, 6, 5, 4);
        lookAsks(y, 1, 1, 1);
        y.lay();
        calledAre(y, 0, 1, 2, -1, -1);
        rowIs(y, 0, 3);
        ExtrasOffice z = looking(1, 3, 6, 4, 2);
        lookAsks(z, 1, 1, 1);
        z.lay();
        rowIs(z, 0, 1, 4);
    }

    private static void firstRow() {
        ExtrasOffice x = looking(1, 1, 1, 1);
        lookAsks(x, 1);
        x.lay();
        rowIs(x, 0, 1);
        rowIs(x, 1, 2);
        rowIs(x, 2, 3);
        rowIs(x, 3);
        // of two rows of two the one with the lesser first PERSON, though the other one ends with a lesser
        ExtrasOffice y = looking(1, 5, 3, 2, 4);
        lookAsks(y, 1, 1, 1);
        y.lay();
        calledAre(y, 0, 2, 1, -1, -1);
        rowIs(y, 0, 1, 4);
        calledAre(y, -1, 0, 1, -1, 2);
        ExtrasOffice z = looking(1, 3, 2, 2);
        lookAsks(z, 1, 1);
        z.lay();
        rowIs(z, 0, 1, 2);
    }

    private static void oneLess() {
        ExtrasOffice x = looking(1, 2);
        lookAsks(x, 1, 1);
        Check.due("lay()", x.lay(), 2);
        rowIs(x, 0);
        Check.due("count(5)", x.count(5), 1);
        calledAre(x, -1, 1);
        Check.due("ask(0, 4)", x.ask(0, 4), 0);
        rowIs(x, 1);
        Check.due("count(5)", x.count(5), 0);
        Check.due("step() of nobody", x.step(1, 0), -1);
        ExtrasOffice y = Office.of(8);
        Check.asks(y, "scene 0 at 0 for 1 want 8: anyone;");
        y.lay();
        for (int p = 0; p < 8; p++) {
            rowIs(y, p);
            Check.due("count(5)", y.count(5), 7 - p);
        }
    }

    private static void laidAnew() {
        ExtrasOffice x = looking(1, 1, 1);
        lookAsks(x, 2);
        Check.due("lay()", x.lay(), 2);
        Check.due("lay() again", x.lay(), 2);
        calledAre(x, 0, 0, -1);
        x.no(0);
        calledAre(x, -1, 0, 0);
        x.away(0, false);
        Check.due("lay() anew", x.lay(), 2);
        calledAre(x, 0, 0, -1);
        x.tell(0, 5);
        Check.asks(x, "scene 0 at 0 for 1 want 3: not seen 5;");
        Check.due("lay()", x.lay(), 2);
        x.tell(1, 5);
        Check.due("those CALLED stay till lay()", x.called(1), 0);
        Check.due("lay() by what is told now", x.lay(), 1);
        calledAre(x, -1, -1, 0);
        x.tell(2, 5);
        Check.due("lay() of nobody", x.lay(), 0);
        Check.due("count(5)", x.count(5), 0);
    }

    private static void noAsks() {
        Check.due("of a new object", new ExtrasOffice().lay(), -1);
        Check.due("with people", Office.of(40).lay(), -1);
        ExtrasOffice x = Office.busy();
        Check.due("with ASKS", x.lay(), 2);
        x.step(1, 0);
        Check.due("behind a DAY", x.lay(), -1);
        x.end(0);
        x.asks();
        Check.due("behind asks() of nothing", x.lay(), -1);
        Office.refusesIn(() -> {
            ExtrasOffice y = Office.busy();
            y.step(1, 0);
            return y;
        }, "lay() without ASKS", -1, ExtrasOffice::lay);
    }

    private static void calledFirstAndLast() {
        ExtrasOffice x = Office.of(40);
        for (int p = 1; p < 39; p++) {
            x.away(p, true);
        }
        Check.asks(x, "scene 0 at 0 for 1 want 1: anyone;" + "scene 0 at 0 for 1 want 8: home 1;".repeat(4)
                + "scene 0 at 0 for 1 want 8: anyone;");
        Check.due("lay()", x.lay(), 2);
        Check.due("called(0)", x.called(0), 0);
        Check.due("called(39)", x.called(39), 5);
        Check.due("called(1)", x.called(1), -1);
    }

    private static void calledNobody() {
        for (int p : new int[] {-1, 4, Edge.LEAST, Edge.HIGHEST}) {
            Office.refuses("called(" + p + ")", -1, x -> x.called(p));
        }
        Office.refuses("called(0), who is not CALLED", -1, x -> x.called(0));
        Check.due("without people", new ExtrasOffice().called(0), -1);
        Check.due("called(40) of forty", Office.of(40).called(40), -1);
        ExtrasOffice x = Office.of(1);
        Check.due("without ASKS", x.called(0), -1);
        Check.asks(x, "scene 0 at 0 for 1 want 1: anyone;");
        Check.due("ahead of lay()", x.called(0), -1);
        x.lay();
        Check.due("behind lay()", x.called(0), 0);
        x.step(1, 0);
        Check.due("behind step()", x.called(0), -1);
    }

    private static void noAndNobodyIsThere() {
        ExtrasOffice x = Office.of(40);
        Check.asks(x, "scene 0 at 0 for 1 want 8: anyone;");
        x.lay();
        for (int p = 0; p < 32; p++) {
            rowIs(x, p, p + 8);
        }
        for (int p = 32; p < 40; p++) {
            rowIs(x, p);
        }
        Check.due("count(5)", x.count(5), 0);
    }

    private static void noOfOneNotCalled() {
        for (int p : new int[] {-1, 4, Edge.LEAST, Edge.HIGHEST}) {
            Office.refuses("no(" + p + ")", -1, x -> x.no(p));
        }
        Office.refuses("no(0), who said so already", -1, x -> x.no(0));
        Office.refuses("no(3), who is AWAY", -1, x -> x.no(3));
        Check.due("without people", new ExtrasOffice().no(0), -1);
        Check.due("without a PLAN", Office.of(1).no(0), -1);
        ExtrasOffice x = Office.of(2);
        Check.asks(x, "scene 0 at 0 for 1 want 1: anyone;");
        Check.due("ahead of lay()", x.no(0), -1);
        Check.due("not AWAY by it", x.about(0, 5), 0);
        x.lay();
        Check.due("not CALLED", x.no(1), -1);
        Check.due("not AWAY by it", x.about(1, 5), 0);
        x.step(1, 0);
        Check.due("behind step()", x.no(0), -1);
    }

    private static void movedOfTheLatest() {
        ExtrasOffice x = looking(1, 3, 2, 1);
        lookAsks(x, 1, 1);
        x.lay();
        Check.due("ahead of all", x.moved(0), -1);
        x.away(3, true);
        rowIs(x, 0, 1, 2);
        Check.due("a no() that is NONE", x.no(0), -1);
        Check.due("the row stays", x.moved(0), 1);
        Check.due("the row stays", x.moved(1), 2);
        Check.due("a no() of nobody", x.no(99), -1);
        Check.due("the row stays", x.moved(1), 2);
        x.away(3, false);
        rowIs(x, 1, 3);
        Check.due("a lesser row leaves nothing of the longer one", x.moved(1), -1);
        x.lay();
        Check.due("behind lay()", x.moved(0), 3);
        x.step(1, 0);
        Check.due("behind step()", x.moved(0), 3);
        lookAsks(x, 1, 1);
        Check.due("behind asks()", x.moved(0), 3);
        x.lay();
        Check.due("called(2)", x.called(2), 1);
        rowIs(x, 2);
        Check.due("a row of nobody", x.moved(0), -1);
    }

    private static void movedNobody() {
        Check.due("of a new object", new ExtrasOffice().moved(0), -1);
        for (int i : new int[] {-1, 1, 6, Edge.LEAST, Edge.HIGHEST}) {
            Office.refuses("moved(" + i + ")", -1, x -> x.moved(i));
        }
        Check.due("the one there is", Office.busy().moved(0), 1);
    }

    private static void seatsToTheLast() {
        ExtrasOffice x = Office.of(40);
        Check.due("nobody is CALLED", x.buses(0, 1), 0);
        Check.asks(x, "scene 0 at 0 for 1 want 8: anyone;".repeat(5));
        Check.due("nobody is CALLED yet", x.buses(0, 100), 0);
        Check.due("lay()", x.lay(), 40);
        int[] seats = {1, 2, 3, 13, 14, 19, 20, 21, 39, 40, 41, 99, 100};
        int[] due = {40, 20, 14, 4, 3, 3, 2, 2, 2, 1, 1, 1, 1};
        for (int i = 0; i < seats.length; i++) {
            Check.due("buses(0, " + seats[i] + ")", x.buses(0, seats[i]), due[i]);
        }
        Check.due("from another HOME", x.buses(3, 1), 0);
        x.no(0);
        Check.due("one less", x.buses(0, 39), 1);
        ExtrasOffice y = new ExtrasOffice();
        for (int home = 0; home <= 3; home++) {
            for (int n = 0; n <= home; n++) {
                y.person(30, 170, 0, home, 5);
            }
        }
        Check.asks(y, "scene 0 at 0 for 1 want 8: anyone;".repeat(2));
        y.lay();
        for (int home = 0; home <= 3; home++) {
            Check.due("buses(" + home + ", 1)", y.buses(home, 1), home + 1);
            Check.due("buses(" + home + ", " + (home + 1) + ")", y.buses(home, home + 1), 1);
        }
    }

    private static void noSuchBuses() {
        for (int home : new int[] {-1, 4, Edge.LEAST, Edge.HIGHEST}) {
            Office.refuses("buses(" + home + ", 1)", -1, x -> x.buses(home, 1));
        }
        for (int seats : new int[] {0, -1, 101, Edge.LEAST, Edge.HIGHEST}) {
            Office.refuses("buses(0, " + seats + ")", -1, x -> x.buses(0, seats));
        }
        Check.due("buses(4, 1) of nobody", new ExtrasOffice().buses(4, 1), -1);
        Check.due("buses(0, 0) of nobody", new ExtrasOffice().buses(0, 0), -1);
        Check.due("buses(3, 100) of nobody", new ExtrasOffice().buses(3, 100), 0);
    }
}
