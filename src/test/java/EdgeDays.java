/** Edges of a DAY that is STEPPED and of promises 14 and 15: step, record. */
final class EdgeDays {
    private EdgeDays() {
    }

    static void all() {
        coming();
        dressing();
        behind();
        Edge.test(14, "The DAY is STEPPED: the minute at which the last one was SENT.", EdgeDays::lastOneSent);
        Edge.test(14, "NONE: other DRESSERS, nobody is CALLED, or 60 DAYS were.", EdgeDays::otherDressers);
        Edge.test(14, "NONE: other DRESSERS, nobody is CALLED, or 60 DAYS were.", EdgeDays::nobodyIsCalled);
        Edge.test(14, "NONE: other DRESSERS, nobody is CALLED, or 60 DAYS were.", EdgeDays::sixtyDays);
        Edge.test(15, "Of a PERSON's RECORD of a DAY what 0 SCENE, 1 COMING, 2 dressed, 3 BEGUN, 4 SENT, 5 the AGREEMENT, "
                + "6 PAY.", EdgeDays::recordOfFirstAndLast);
        Edge.test(15, "NONE: there is none such (AGREEMENT too).", EdgeDays::noSuchRecord);
    }

    private static void coming() {
        Edge.test(Edge.TERMS, "NEXT x = x * 1103515245 + 12345 (ints, they wrap).", EdgeDays::seedsThatWrap);
        Edge.test(Edge.TERMS, "NEXT x = x * 1103515245 + 12345 (ints, they wrap).", EdgeDays::seedsAtTheEdge);
        Edge.test(Edge.TERMS, "A CALLED PERSON p COMES at the minute of the CALL and "
                + "(NEXT (SEED + 31 p + 7 DAY) >>> 16) % 20 more.", EdgeDays::comingEachMinute);
        Edge.test(Edge.TERMS, "A CALLED PERSON p COMES at the minute of the CALL and "
                + "(NEXT (SEED + 31 p + 7 DAY) >>> 16) % 20 more.", EdgeDays::comingOfEachPersonAndDay);
    }

    private static void dressing() {
        Edge.test(Edge.TERMS, "A DAY is STEPPED with some DRESSERS (1 to 5) and a SEED.", EdgeDays::oneToFiveDressers);
        Edge.test(Edge.TERMS, "Those who have come are dressed in the order of when they came, of one minute the lesser "
                + "PERSON first", EdgeDays::orderOfComing);
        Edge.test(Edge.TERMS, "each by the first DRESSER to be free (of several the lesser), from then, or when they came, "
                + "if that is later, for SLOW minutes.", EdgeDays::fromThenOrWhenTheyCame);
        Edge.test(Edge.TERMS, "The SCENE of an ASK is BEGUN when all of its CALLED are dressed, and takes its minutes: "
                + "then they are SENT.", EdgeDays::begunWithTheLast);
        Edge.test(Edge.TERMS, "(Minutes may be beyond 1439.)", EdgeDays::beyondTheDay);
    }

    private static void behind() {
        Edge.test(Edge.TERMS, "TURNS are one more; FREE is the minute of all time at which they were SENT, and 660 more",
                EdgeDays::turnsAndFree);
        Edge.test(Edge.TERMS, "a FACT is told: SEEN in that SCENE", EdgeDays::factOfTheDay);
        Edge.test(Edge.TERMS, "a RECORD is kept, with the number of the latest AGREEMENT (NONE without).",
                EdgeDays::latestAgreement);
        Edge.test(Edge.TERMS, "The DAY is the next one, without ASKS, PLAN.", EdgeDays::nextDay);
    }

    private static int delay(int seed, int p, int day) {
        int x = seed + 31 * p + 7 * day;
        return (x * 1103515245 + 12345 >>> 16) % 20;
    }

    private static int seedFor(int more) {
        for (int seed = 0; seed < 1000000; seed++) {
            if (delay(seed, 0, 0) == more) {
                return seed;
            }
        }
        throw new IllegalStateException("no such seed");
    }

    /** Two who are CALLED, all others AWAY, with a seed by which they come so many minutes behind their CALLS. */
    private static final class Two {
        private int other;
        private int seed;
        private ExtrasOffice x;

        Two(int first, int second) {
            for (seed = 0; seed < 20000; seed++) {
                for (other = 1; other < 40; other++) {
                    if (delay(seed, 0, 0) == first && delay(seed, other, 0) == second) {
                        return;
                    }
                }
            }
            throw new IllegalStateException("no such seed");
        }

        Two called(String text, int slow, int slowOther) {
            x = new ExtrasOffice();
            x.person(30, 170, 1, 0, slow);
            for (int p = 1; p < other; p++) {
                x.person(30, 170, 0, 0, 5);
                x.away(p, true);
            }
            x.person(30, 170, 2, 0, slowOther);
            Check.asks(x, text);
            Check.due("lay()", x.lay(), 2);
            return this;
        }

        Two stepped(int dressers) {
            x.step(dressers, seed);
            return this;
        }

        void areDressed(int due, int dueOther) {
            Check.due("dressed", x.record(0, 0, 2), due);
            Check.due("the other one dressed", x.record(other, 0, 2), dueOther);
        }
    }

    private static ExtrasOffice called(int people, String text) {
        ExtrasOffice x = Office.of(people);
        Check.asks(x, text);
        x.lay();
        return x;
    }

    private static ExtrasOffice slowOnes(String text, int... slow) {
        ExtrasOffice x = new ExtrasOffice();
        for (int p = 0; p < slow.length; p++) {
            x.person(30, 170, 1 << p, 0, slow[p]);
        }
        Check.asks(x, text);
        Check.due("lay()", x.lay(), slow.length);
        return x;
    }

    private static void seedsThatWrap() {
        int[] seeds = {0, 1, -1, 2, -2, 65536, -65536, Edge.LEAST, Edge.LEAST + 1, Edge.HIGHEST, Edge.HIGHEST - 1,
            Edge.HIGHEST - 30, Edge.HIGHEST - 31, 1103515245, -1103515245, 123456789};
        for (int seed : seeds) {
            ExtrasOffice x = called(2, "scene 0 at 100 for 1 want 2: anyone;");
            x.step(2, seed);
            for (int p = 0; p < 2; p++) {
                Check.due("COMING of " + p + " by " + seed, x.record(p, 0, 1), 100 + delay(seed, p, 0));
            }
        }
    }

    /** Seeds of which NEXT ends in sixteen bits of 1 or of 0: there one more or one less in it is another minute. */
    private static void seedsAtTheEdge() {
        for (int seed = 0; seed < 1 << 16; seed++) {
            int next = seed * 1103515245 + 12345;
            if ((next & 0xffff) == 0xffff || (next & 0xffff) == 0) {
                ExtrasOffice x = called(1, "scene 0 at 100 for 1 want 1: anyone;");
                x.step(1, seed);
                Check.due("COMING by " + seed, x.record(0, 0, 1), 100 + delay(seed, 0, 0));
            }
        }
    }

    private static void comingEachMinute() {
        for (int more = 0; more <= 19; more++) {
            for (int call : new int[] {0, 1439}) {
                ExtrasOffice x = called(1, "scene 0 at " + call + " for 1 want 1: anyone;");
                x.step(1, seedFor(more));
                Check.due("COMING", x.record(0, 0, 1), call + more);
                Check.due("dressed", x.record(0, 0, 2), call + more + 5);
            }
        }
    }

    private static void comingOfEachPersonAndDay() {
        for (int seed : new int[] {0, -1, Edge.HIGHEST}) {
            ExtrasOffice x = called(40, "scene 0 at 9 for 1 want 8: anyone;".repeat(5));
            x.step(5, seed);
            for (int p = 0; p < 40; p++) {
                Check.due("COMING of " + p, x.record(p, 0, 1), 9 + delay(seed, p, 0));
            }
        }
        ExtrasOffice x = Office.of(1);
        for (int day = 0; day < 60; day++) {
            Check.feedWithBlanks(x, "scene 0 at 9 for 1 want 1: anyone;");
            x.asks();
            x.lay();
            x.step(1, 77);
            Check.due("COMING on DAY " + day, x.record(0, day, 1), 9 + delay(77, 0, day));
        }
    }

    private static void oneToFiveDressers() {
        // all come at once and are equally slow: as many are dressed at a time as there are DRESSERS
        for (int dressers = 1; dressers <= 5; dressers++) {
            ExtrasOffice x = new ExtrasOffice();
            for (int p = 0; p < 6; p++) {
                x.person(30, 170, 0, 0, 30);
            }
            Check.asks(x, "scene 0 at 0 for 1 want 6: anyone;");
            x.lay();
            x.step(dressers, 0);
            int[] queue = queue(x, 6);
            int[] free = new int[dressers];
            for (int n = 0; n < 6; n++) {
                int p = queue[n];
                int next = n % dressers;
                free[next] = Math.max(free[next], x.record(p, 0, 1)) + 30;
                Check.due("dressed " + n + " by " + dressers, x.record(p, 0, 2), free[next]);
            }
        }
    }

    /** People in the order of when they came. */
    private static int[] queue(ExtrasOffice x, int people) {
        int[] queue = new int[people];
        int n = 0;
        for (int minute = 0; minute < 2000; minute++) {
            for (int p = 0; p < people; p++) {
                if (x.record(p, 0, 1) == minute && n < people) {
                    queue[n] = p;
                    n++;
                }
            }
        }
        return queue;
    }

    private static void orderOfComing() {
        String text = "scene 0 at 100 for 1 want 2: anyone;";
        for (int minute : new int[] {0, 7, 19}) {
            new Two(minute, minute).called(text, 30, 20).stepped(1).areDressed(130 + minute, 150 + minute);
        }
        new Two(7, 8).called(text, 30, 20).stepped(1).areDressed(137, 157);
        new Two(8, 7).called(text, 30, 20).stepped(1).areDressed(157, 127);
        new Two(0, 19).called(text, 30, 20).stepped(1).areDressed(130, 150);
        new Two(19, 0).called(text, 30, 20).stepped(1).areDressed(150, 120);
        // the order is of when they come, not of their ASKS
        String asks = "scene 0 at 110 for 1 want 1: look 0; scene 1 at 100 for 1 want 1: look 1;";
        new Two(7, 7).called(asks, 30, 20).stepped(1).areDressed(157, 127);
        String others = "scene 0 at 100 for 1 want 1: look 1; scene 1 at 100 for 1 want 1: look 0;";
        new Two(7, 7).called(others, 30, 20).stepped(1).areDressed(137, 157);
    }

    private static void fromThenOrWhenTheyCame() {
        // the first is dressed till their SLOW minutes are over; the other one comes a minute ahead, then, or behind
        String text = "scene 0 at 100 for 1 want 2: anyone;";
        new Two(0, 7).called(text, 8, 9).stepped(1).areDressed(108, 117);
        new Two(0, 7).called(text, 7, 9).stepped(1).areDressed(107, 116);
        new Two(0, 7).called(text, 6, 9).stepped(1).areDressed(106, 116);
        new Two(7, 7).called(text, 30, 1).stepped(2).areDressed(137, 108);
        new Two(7, 7).called(text, 30, 1).stepped(1).areDressed(137, 138);
        // the DRESSERS of one DAY are free on the next, however late it was
        ExtrasOffice x = called(2, "scene 0 at 1439 for 1 want 1: anyone;");
        x.step(1, 0);
        Check.due("late", x.record(0, 0, 2) > 1439, true);
        Check.asks(x, "scene 0 at 0 for 1 want 2: anyone;");
        x.lay();
        x.step(1, 0);
        Check.due("free at minute 0", x.record(1, 1, 2), delay(0, 1, 1) + 5);
    }

    private static void begunWithTheLast() {
        ExtrasOffice x = slowOnes("scene 0 at 100 for 10 want 1: look 0; scene 1 at 100 for 20 want 2: look 1 or look 2;",
                30, 1, 7);
        x.step(5, 3);
        int alone = x.record(0, 0, 2);
        Check.due("BEGUN of one alone", x.record(0, 0, 3), alone);
        Check.due("SENT", x.record(0, 0, 4), alone + 10);
        int both = Math.max(x.record(1, 0, 2), x.record(2, 0, 2));
        Check.due("one waits for the other", x.record(1, 0, 2) != x.record(2, 0, 2), true);
        for (int p = 1; p <= 2; p++) {
            Check.due("BEGUN", x.record(p, 0, 3), both);
            Check.due("SENT", x.record(p, 0, 4), both + 20);
        }
        for (int minutes : new int[] {1, 600}) {
            ExtrasOffice y = called(1, "scene 0 at 0 for " + minutes + " want 1: anyone;");
            y.step(1, 0);
            Check.due("as many minutes as it takes", y.record(0, 0, 4) - y.record(0, 0, 3), minutes);
        }
        // one who said no is not waited for
        ExtrasOffice z = slowOnes("scene 0 at 100 for 10 want 2: anyone;", 5, 30);
        z.no(1);
        z.step(1, seedFor(0));
        Check.due("BEGUN without them", z.record(0, 0, 3), 105);
        Check.due("no RECORD of them", z.record(1, 0, 0), -1);
    }

    private static void beyondTheDay() {
        ExtrasOffice x = new ExtrasOffice();
        for (int p = 0; p < 40; p++) {
            x.person(30, 170, 0, 0, 30);
        }
        Check.asks(x, "scene 0 at 1439 for 600 want 8: anyone;".repeat(5));
        Check.due("lay()", x.lay(), 40);
        int last = x.step(1, 0);
        int first = 9999;
        for (int p = 0; p < 40; p++) {
            first = Math.min(first, x.record(p, 0, 1));
        }
        Check.due("forty people, one DRESSER, thirty minutes each", last, first + 40 * 30 + 600);
        int sent = 0;
        for (int p = 0; p < 40; p++) {
            sent = Math.max(sent, x.record(p, 0, 4));
        }
        Check.due("SENT", sent, last);
    }

    private static void turnsAndFree() {
        ExtrasOffice x = called(2, "scene 0 at 0 for 1 want 1: anyone;");
        int sent = x.step(1, 0);
        Check.due("TURNS", x.about(0, 6), 1);
        Check.due("FREE", x.about(0, 7), sent + 660);
        Check.due("TURNS of one not CALLED", x.about(1, 6), 0);
        Check.due("FREE of one not CALLED", x.about(1, 7), 0);
        Check.asks(x, "scene 0 at 1439 for 600 want 2: anyone;");
        x.lay();
        x.step(1, 0);
        Check.due("TURNS", x.about(0, 6), 2);
        Check.due("TURNS", x.about(1, 6), 1);
        Check.due("FREE", x.about(0, 7), 1440 + x.record(0, 1, 4) + 660);
        Check.due("FREE", x.about(1, 7), 1440 + x.record(1, 1, 4) + 660);
    }

    private static void factOfTheDay() {
        ExtrasOffice x = called(3, "scene 19 at 0 for 1 want 2: anyone;");
        Check.due("FACTS", x.count(3), 0);
        x.step(1, 0);
        Check.due("FACTS", x.count(3), 2);
        Check.due("SEEN", Check.seen(x, 0, 19, 1), 1);
        Check.due("SEEN", Check.seen(x, 1, 19, 1), 0);
        Check.due("SEEN", Check.seen(x, 1, 19, 2), 1);
        Check.due("not SEEN", Check.seen(x, 2, 19, 2), 0);
        Check.due("not SEEN", Check.seen(x, 0, 0, 2), 0);
        Check.due("an ASK of those SEEN", Check.asks(x, "scene 0 at 1439 for 1 want 3: seen 19;"), 1);
        Check.due("lay()", x.lay(), 2);
        // PERSON by PERSON, whatever the order in which they were SENT
        ExtrasOffice y = slowOnes("scene 0 at 500 for 1 want 1: look 0; scene 1 at 100 for 1 want 1: look 1;", 5, 5);
        y.step(1, 0);
        Check.due("the lesser PERSON's FACT is the first", Check.seen(y, 0, 0, 1), 1);
        Check.due("the other's is the second", Check.seen(y, 1, 1, 1), 0);
        Check.due("the other's is the second", Check.seen(y, 1, 1, 2), 1);
    }

    private static void latestAgreement() {
        ExtrasOffice x = Office.of(1);
        for (int day = 0; day <= 3; day++) {
            Check.asks(x, "scene 0 at 9 for 1 want 1: anyone;");
            x.lay();
            if (day == 1 || day == 3) {
                Check.agree(x, "base 5;");
            }
            Check.agree(x, "a fault");
            x.step(1, 0);
        }
        int[] due = {-1, 0, 0, 1};
        for (int day = 0; day <= 3; day++) {
            Check.due("the AGREEMENT of DAY " + day, x.record(0, day, 5), due[day]);
        }
        ExtrasOffice y = called(1, "scene 0 at 9 for 1 want 1: anyone;");
        for (int n = 0; n < 31; n++) {
            y.agree();
        }
        y.step(1, 0);
        Check.due("the last AGREEMENT there may be", y.record(0, 0, 5), 29);
    }

    private static void nextDay() {
        ExtrasOffice x = Office.busy();
        Check.due("count(4)", x.count(4), 1);
        x.step(1, 0);
        Check.due("count(4)", x.count(4), 2);
        Check.due("count(1)", x.count(1), 0);
        Check.due("count(5)", x.count(5), 0);
        Check.due("ask(0, 0)", x.ask(0, 0), -1);
        Check.due("fits(0, 0, 0)", x.fits(0, 0, 0), -1);
        for (int p = 0; p < 4; p++) {
            Check.due("called(" + p + ")", x.called(p), -1);
        }
        Check.due("lay()", x.lay(), -1);
        Check.due("step(1, 0)", x.step(1, 0), -1);
        Check.due("the TAPE stays", x.count(6), 40);
        Check.due("who is AWAY stays so", x.about(3, 5), 1);
    }

    private static void lastOneSent() {
        ExtrasOffice x = slowOnes("scene 0 at 100 for 600 want 1: look 0; scene 1 at 200 for 1 want 1: look 1;", 5, 5);
        int last = x.step(1, 0);
        Check.due("the first one is SENT last", x.record(0, 0, 4), last);
        Check.due("SENT earlier", x.record(1, 0, 4) < last, true);
        ExtrasOffice y = slowOnes("scene 0 at 200 for 1 want 1: look 0; scene 1 at 200 for 300 want 1: look 1;", 5, 5);
        last = y.step(1, 0);
        Check.due("the second one is SENT last", y.record(1, 0, 4), last);
        ExtrasOffice z = new ExtrasOffice();
        z.person(30, 170, 0, 0, 1);
        Check.asks(z, "scene 0 at 0 for 1 want 1: anyone;");
        z.lay();
        Check.due("the earliest there may be", z.step(5, seedFor(0)), 2);
        Check.asks(z, "scene 0 at 1400 for 1 want 1: anyone;");
        z.lay();
        Check.due("minutes are of that DAY", z.step(1, 0), 1400 + delay(0, 0, 1) + 1 + 1);
    }

    private static void otherDressers() {
        for (int dressers : new int[] {0, -1, 6, Edge.LEAST, Edge.HIGHEST}) {
            Office.refuses("step(" + dressers + ", 5)", -1, x -> x.step(dressers, 5));
        }
        for (int dressers = 1; dressers <= 5; dressers++) {
            ExtrasOffice x = called(1, "scene 0 at 0 for 1 want 1: anyone;");
            Check.due("step(" + dressers + ", 0)", x.step(dressers, 0), delay(0, 0, 0) + 6);
            Check.due("count(4)", x.count(4), 1);
        }
    }

    private static void nobodyIsCalled() {
        Check.due("of a new object", new ExtrasOffice().step(1, 0), -1);
        Check.due("without ASKS", Office.of(40).step(1, 0), -1);
        Office.refusesIn(() -> {
            ExtrasOffice x = Office.busy();
            x.asks();
            Check.feedWithBlanks(x, Office.NEXT_ASKS);
            return x;
        }, "step() ahead of lay()", -1, x -> x.step(1, 0));
        Office.refusesIn(() -> {
            ExtrasOffice x = Office.busy();
            x.no(1);
            x.no(0);
            x.no(2);
            return x;
        }, "step() when all said no", -1, x -> x.step(1, 0));
        Office.refusesIn(() -> {
            ExtrasOffice x = Office.busy();
            x.end(0);
            Check.asks(x, "scene 1 at 0 for 1 want 1: not anyone;");
            x.lay();
            return x;
        }, "step() when nobody FITS", -1, x -> x.step(1, 0));
        ExtrasOffice x = called(1, "scene 0 at 0 for 1 want 1: anyone;");
        Check.due("with one CALLED", x.step(1, 0) > 0, true);
        Check.due("count(4)", x.count(4), 1);
    }

    /** Sixty DAYS of one PERSON of two, and one more laid. */
    private static ExtrasOffice afterSixty() {
        ExtrasOffice x = Office.of(2);
        for (int day = 0; day <= 60; day++) {
            Check.feedWithBlanks(x, "scene 0 at 700 for 1 want 1: anyone;");
            x.asks();
            x.lay();
            if (day < 60) {
                x.step(1, 0);
            }
        }
        return x;
    }

    private static void sixtyDays() {
        ExtrasOffice x = Office.of(1);
        for (int day = 0; day < 60; day++) {
            Check.feedWithBlanks(x, "scene 0 at 700 for 1 want 1: anyone;");
            x.asks();
            x.lay();
            Check.due("step() of DAY " + day, x.step(1, 0), 700 + delay(0, 0, day) + 6);
        }
        Check.due("count(4)", x.count(4), 60);
        Check.due("the last RECORD", x.record(0, 59, 0), 0);
        Check.due("TURNS", x.about(0, 6), 60);
        Check.due("FREE", x.about(0, 7), 59 * 1440 + x.record(0, 59, 4) + 660);
        Check.asks(x, "scene 0 at 0 for 1 want 1: anyone;");
        Check.due("lay() of one with sixty TURNS", x.lay(), 1);
        Check.due("a sixty-first step()", x.step(1, 0), -1);
        Office.refusesAtLast(EdgeDays::afterSixty, "a sixty-first step()", -1, y -> y.step(1, 0));
        ExtrasOffice y = afterSixty();
        Check.due("lay() on DAY 60", y.lay(), 1);
        Check.due("count(7)", y.count(7), 60);
        Check.due("step()", y.step(1, 0), -1);
        Check.due("count(4)", y.count(4), 60);
        Check.due("count(5)", y.count(5), 1);
        Check.due("retake() on DAY 60", y.retake(0, 0), 0);
    }

    private static void recordOfFirstAndLast() {
        ExtrasOffice x = Office.of(40);
        Check.agree(x, "base 5; over 0 each 1 up;");
        for (int p = 1; p < 39; p++) {
            x.away(p, true);
        }
        Check.asks(x, "scene 19 at 0 for 1 want 1: anyone; scene 18 at 1439 for 600 want 1: anyone;");
        x.lay();
        x.step(2, 0);
        int first = delay(0, 0, 0);
        int last = 1439 + delay(0, 39, 0);
        int[] dueFirst = {19, first, first + 5, first + 5, first + 6, 0, 6};
        int[] dueLast = {18, last, last + 5, last + 5, last + 605, 0, 5 + 41};
        for (int what = 0; what <= 6; what++) {
            Check.due("record(0, 0, " + what + ")", x.record(0, 0, what), dueFirst[what]);
            Check.due("record(39, 0, " + what + ")", x.record(39, 0, what), dueLast[what]);
            Check.due("record(1, 0, " + what + ")", x.record(1, 0, what), -1);
        }
    }

    private static void noSuchRecord() {
        for (int none : new int[] {-1, 40, Edge.LEAST, Edge.HIGHEST}) {
            Office.refuses("record(" + none + ", 0, 0)", -1, x -> x.record(none, 0, 0));
            Office.refuses("record(0, " + none + ", 0)", -1, x -> x.record(0, none, 0));
            Office.refuses("record(0, 0, " + none + ")", -1, x -> x.record(0, 0, none));
        }
        ExtrasOffice x = Office.busy();
        Check.due("there is one", x.record(0, 0, 0), 2);
        Check.due("no seventh number", x.record(0, 0, 7), -1);
        Check.due("no RECORD of the DAY at hand", x.record(1, 1, 0), -1);
        Check.due("no RECORD of one not CALLED", x.record(2, 0, 0), -1);
        Check.due("no RECORD of one not CALLED, PAY", x.record(2, 0, 6), -1);
        Check.due("of a new object", new ExtrasOffice().record(0, 0, 6), -1);
        ExtrasOffice y = called(1, "scene 0 at 0 for 1 want 1: anyone;");
        y.step(1, 0);
        Check.due("no AGREEMENT", y.record(0, 0, 5), -1);
        Check.due("PAY without", y.record(0, 0, 6), 0);
    }
}
