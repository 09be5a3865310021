/** Edges of promise 24, count, of the constant, and of an object's 512 calls. */
final class EdgeCounts {
    private EdgeCounts() {
    }

    static void all() {
        Edge.test("The public face", "public static final int NONE = -1;", EdgeCounts::none);
        Edge.test("What it is", "An object is used for at most 512 calls after it has been made", EdgeCounts::lastCall);
        Edge.test("What it is", "An object is used for at most 512 calls after it has been made", EdgeCounts::dearestCalls);
        Edge.test(24, "what 0 PEOPLE, 1 ASKS, 2 AGREEMENTS, 3 FACTS, 4 the DAY, 5 those CALLED, 6 bytes of the TAPE, "
                + "7 RECORDS.", EdgeCounts::fromNothingToTheMost);
        Edge.test(24, "what 0 PEOPLE, 1 ASKS, 2 AGREEMENTS, 3 FACTS, 4 the DAY, 5 those CALLED, 6 bytes of the TAPE, "
                + "7 RECORDS.", EdgeCounts::mostRecords);
        Edge.test(24, "NONE for another what.", EdgeCounts::anotherWhat);
    }

    private static void none() {
        Check.due("NONE", ExtrasOffice.NONE, -1);
        Check.due("count(8)", new ExtrasOffice().count(8), ExtrasOffice.NONE);
    }

    private static void lastCall() {
        ExtrasOffice x = Office.of(40);
        for (int n = 40; n < 511; n++) {
            Check.due("call " + n, x.away(n % 40, n % 3 == 0), true);
        }
        Check.due("call 512", x.about(39, 5), 479 % 3 == 0 ? 1 : 0);
    }

    /** Forty people who CAN be in all of six ASKS, laid till the calls are over. */
    private static void dearestCalls() {
        ExtrasOffice x = new ExtrasOffice();
        for (int p = 0; p < 40; p++) {
            x.person(30, 170, p % 2 == 0 ? 65535 : 65535 >> p % 16, 0, 5);
        }
        Check.feedWithBlanks(x, "scene0at0for1want8:look0;scene0at0for1want8:look1;scene0at0for1want8:look2;"
                + "scene0at0for1want8:look3;scene0at0for1want8:look4;scene0at0for1want8:look5;");
        Check.due("asks()", x.asks(), 6);
        int first = x.lay();
        for (int n = 50; n < 511; n++) {
            Check.due("lay() " + n, x.lay(), first);
        }
        Check.due("count(5)", x.count(5), first);
    }

    private static void fromNothingToTheMost() {
        ExtrasOffice x = new ExtrasOffice();
        int[] due = new int[8];
        all(x, due);
        for (int p = 0; p < 40; p++) {
            x.person(30, 170, 0, 0, 5);
        }
        due[0] = 40;
        all(x, due);
        for (int n = 0; n < 30; n++) {
            x.agree();
        }
        due[2] = 30;
        all(x, due);
        for (int n = 0; n < 200; n++) {
            x.tell(n % 40, n % 20);
        }
        due[3] = 200;
        all(x, due);
        Check.asks(x, "scene 0 at 0 for 1 want 8: anyone;".repeat(6));
        due[1] = 6;
        all(x, due);
        x.lay();
        due[5] = 40;
        all(x, due);
        x.no(0);
        due[5] = 39;
        all(x, due);
        x.feed(0, 0, 0, 0, 0);
        due[6] = 20;
        all(x, due);
        x.end(19);
        due[6] = 19;
        all(x, due);
        x.step(5, 0);
        int[] behind = {40, 0, 30, 239, 1, 0, 19, 39};
        all(x, behind);
        ExtrasOffice y = new ExtrasOffice();
        for (int n = 1; n <= 50; n++) {
            y.feed(0, 0, 0, 0, 0);
        }
        Check.due("bytes of a full TAPE", y.count(6), 1000);
    }

    private static void all(ExtrasOffice x, int[] due) {
        for (int what = 0; what <= 7; what++) {
            Check.due("count(" + what + ")", x.count(what), due[what]);
        }
    }

    /** As many a DAY, on as many DAYS, as 512 calls leave room for. */
    private static void mostRecords() {
        ExtrasOffice x = Office.of(40);
        int records = 0;
        for (int day = 0; day < 42; day++) {
            Check.feedWithBlanks(x, "scene0at0for1want8:anyone;".repeat(5));
            Check.due("asks()", x.asks(), 5);
            Check.due("lay()", x.lay(), 40);
            Check.due("step()", x.step(5, 0) > 0, true);
            records += 40;
        }
        Check.due("count(7)", x.count(7), records);
        Check.due("count(3)", x.count(3), records);
        Check.due("the last RECORD of the last PERSON", x.record(39, 41, 0), 0);
        Check.due("TURNS of the last PERSON", x.about(39, 6), 42);
        Check.due("seen", Check.seen(x, 39, 0, records), 42);
        Check.due("seen of all but the last", Check.seen(x, 39, 0, records - 1), 41);
        ExtrasOffice y = Office.of(16);
        for (int day = 0; day < 60; day++) {
            Check.feedWithBlanks(y, "scene0at0for1want8:anyone;".repeat(2));
            y.asks();
            y.lay();
            y.step(5, 0);
        }
        Check.due("count(7)", y.count(7), 960);
        Check.due("the last of sixty DAYS", y.record(15, 59, 0), 0);
    }

    private static void anotherWhat() {
        for (int what : new int[] {-1, 8, Edge.LEAST, Edge.HIGHEST}) {
            Check.due("of a new object", new ExtrasOffice().count(what), -1);
            Office.refuses("count(" + what + ")", -1, x -> x.count(what));
        }
    }
}
