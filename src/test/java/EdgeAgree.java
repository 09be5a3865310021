/** Edges of AGREEMENTS and PAY and of promises 7 and 23: agree, pay. */
final class EdgeAgree {
    /** What the one PERSON of these tests is CALLED to: COMES at 600, is dressed by 610, SENT at 655. */
    private static final String ASK = "scene 2 at 600 for 45 want 1: anyone;";

    private EdgeAgree() {
    }

    static void all() {
        Edge.test(Edge.TERMS, "AGREEMENT: {TERM}.", EdgeAgree::noneToEight);
        Edge.test(Edge.TERMS, "TERM: base NUMBER ; over NUMBER each NUMBER ROUND ; before NUMBER each NUMBER ROUND ; "
                + "after NUMBER each NUMBER ROUND ; ROUND: up | down.", EdgeAgree::eachTokenIsDue);
        Edge.test(Edge.TERMS, "NUMBERS (1 to 5 digits)", EdgeAgree::numbersToFiveDigits);
        Edge.test(Edge.TERMS, "at the word of a 7th ASK, a 9th TERM", EdgeAgree::ninthTerm);
        Edge.test(Edge.TERMS, "base: its NUMBER", EdgeAgree::base);
        Edge.test(Edge.TERMS, "over m each n: quarters of the minutes from COMING to SENT that are more than m, times n",
                EdgeAgree::over);
        Edge.test(Edge.TERMS, "before m: quarters of the minutes from COMING to minute m, if that is later",
                EdgeAgree::before);
        Edge.test(Edge.TERMS, "after m: quarters of those from minute m to SENT, if that is later", EdgeAgree::after);
        Edge.test(Edge.TERMS, "Quarters of some minutes: these by 15, up or down.", EdgeAgree::quarters);
        Edge.test(Edge.TERMS, "in ints, that wrap: all together", EdgeAgree::wrapping);
        Edge.test(Edge.TERMS, "PAY of a RECORD by its AGREEMENT (0 without)", EdgeAgree::withoutAgreement);
        Edge.test(7, "The TAPE (empty then) is a new AGREEMENT: its number, from 0 on", EdgeAgree::numberedFromNothing);
        Edge.test(7, "with a FAULT likewise.", EdgeAgree::faultyAgreement);
        Edge.test(7, "-2, and nothing else is done: 30 are there (asked ahead of all).", EdgeAgree::thirtyFirst);
        Edge.test(23, "PAY of a PERSON for the DAYS from one to another one, both too, together", EdgeAgree::bothDaysToo);
        Edge.test(23, "PAY of a PERSON for the DAYS from one to another one, both too, together", EdgeAgree::longsDoNotWrap);
        Edge.test(23, "0 without any.", EdgeAgree::payOfNothing);
    }

    private static ExtrasOffice worked(String agreement) {
        ExtrasOffice x = new ExtrasOffice();
        x.person(30, 170, 0, 0, 10);
        Check.due("agree() of " + agreement, Check.agree(x, agreement), 0);
        Check.asks(x, ASK);
        x.lay();
        Check.due("step(1, 0)", x.step(1, 0), 655);
        Check.due("COMING", x.record(0, 0, 1), 600);
        return x;
    }

    private static void paid(String agreement, int due) {
        ExtrasOffice x = worked(agreement);
        Check.due("PAY by " + agreement, x.record(0, 0, 6), due);
        Check.due("pay by " + agreement, x.pay(0, 0, 0), due);
    }

    private static void noneToEight() {
        for (int terms = 0; terms <= 8; terms++) {
            paid("base 7;".repeat(terms), 7 * terms);
        }
        paid(" \n", 0);
        paid("base 1;over 0 each 1 up;before 660 each 1 up;after 0 each 0 up;base 10;base 10;base 10;base 10;", 49);
    }

    private static void eachTokenIsDue() {
        String[] texts = {"base 5 ;", "over 5 each 6 up ;", "before 5 each 6 down ;", "after 5 each 6 up ;"};
        for (String text : texts) {
            Check.due(text, Check.agree(new ExtrasOffice(), text), 0);
            String[] tokens = text.split(" ");
            StringBuilder ahead = new StringBuilder();
            for (int cut = 0; cut < tokens.length; cut++) {
                if (cut > 0) {
                    Check.agreeFault(ahead.toString(), 1, ahead.length());
                }
                Check.agreeFault(ahead + "(", 1, ahead.length());
                Check.agreeFault(ahead + "want", 1, ahead.length());
                if (!tokens[cut].equals("5") && !tokens[cut].equals("6")) {
                    Check.agreeFault(ahead + "7", 1, ahead.length());
                } else {
                    Check.agreeFault(ahead + "base", 1, ahead.length());
                }
                ahead.append(tokens[cut]).append(' ');
            }
        }
        Check.agreeFault("base 5 up;", 1, 7);
        Check.agreeFault("over 5 6 up;", 1, 7);
        Check.agreeFault("over 5 each 6;", 1, 13);
        Check.agreeFault("over 5 each 6 up down;", 1, 17);
        Check.agreeFault("base 5;;", 1, 7);
    }

    private static void numbersToFiveDigits() {
        paid("base 0;", 0);
        paid("base 99999;", 99999);
        paid("base 00007;", 7);
        paid("over 99999 each 99999 up;", 0);
        paid("over 0 each 99999 down;", 3 * 99999);
        paid("after 99999 each 99999 up;", 0);
        paid("before 0 each 99999 up;", 0);
        for (String word : new String[] {"over", "before", "after"}) {
            Check.agreeFault(word + " 100000 each 1 up;", 1, word.length() + 1);
            Check.agreeFault(word + " 1 each 100000 up;", 1, word.length() + 8);
            Check.agreeFault(word + " 1 each -1 up;", 1, word.length() + 8);
        }
        Check.agreeFault("base 100000;", 1, 5);
        Check.agreeFault("base 000000;", 1, 5);
        Check.agreeFault("base -1;", 1, 5);
    }

    private static void ninthTerm() {
        String eight = "base 1;".repeat(8);
        Check.due("eight", Check.agree(new ExtrasOffice(), eight + "\n "), 0);
        for (String word : new String[] {"base", "over", "before", "after"}) {
            Check.agreeFault(eight + word, 2, 56);
            Check.agreeFault(eight + " " + word + " 1;", 2, 57);
        }
        Check.agreeFault(eight + "bases", 1, 56);
        Check.agreeFault(eight + "up", 1, 56);
        Check.agreeFault(eight + "1", 1, 56);
        Check.agreeFault(eight + ";", 1, 56);
        Check.agreeFault(eight + "\u00ff", 1, 56);
        Check.agreeFault(eight + "base 100000;", 2, 56);
    }

    private static void base() {
        paid("base 1;", 1);
        paid("base 0;base 99999;", 99999);
    }

    private static void over() {
        paid("over 54 each 7 up;", 7);
        paid("over 54 each 7 down;", 0);
        paid("over 55 each 7 up;", 0);
        paid("over 56 each 7 up;", 0);
        paid("over 40 each 7 up;", 7);
        paid("over 40 each 7 down;", 7);
        paid("over 39 each 7 up;", 14);
        paid("over 41 each 7 down;", 0);
        paid("over 0 each 7 up;", 28);
        paid("over 0 each 7 down;", 21);
        paid("over 0 each 0 up;", 0);
    }

    private static void before() {
        paid("before 599 each 7 up;", 0);
        paid("before 600 each 7 up;", 0);
        paid("before 601 each 7 up;", 7);
        paid("before 601 each 7 down;", 0);
        paid("before 0 each 7 up;", 0);
        // minute m may lie behind SENT, and behind the DAY
        paid("before 660 each 7 down;", 28);
        paid("before 2100 each 7 down;", 700);
        paid("before 800 each 0 up;", 0);
    }

    private static void after() {
        paid("after 656 each 7 up;", 0);
        paid("after 655 each 7 up;", 0);
        paid("after 654 each 7 up;", 7);
        paid("after 654 each 7 down;", 0);
        // minute m may lie ahead of COMING
        paid("after 55 each 7 down;", 280);
        paid("after 0 each 7 up;", 308);
        paid("after 0 each 0 up;", 0);
    }

    private static void quarters() {
        int[] minutes = {1, 14, 15, 16, 29, 30, 31};
        int[] up = {1, 1, 1, 2, 2, 2, 3};
        int[] down = {0, 0, 1, 1, 1, 2, 2};
        for (int i = 0; i < minutes.length; i++) {
            paid("before " + (600 + minutes[i]) + " each 1 up;", up[i]);
            paid("before " + (600 + minutes[i]) + " each 1 down;", down[i]);
            paid("after " + (655 - minutes[i]) + " each 1 up;", up[i]);
            paid("after " + (655 - minutes[i]) + " each 1 down;", down[i]);
            paid("over " + (55 - minutes[i]) + " each 1 up;", up[i]);
            paid("over " + (55 - minutes[i]) + " each 1 down;", down[i]);
        }
    }

    /** From 600 to 99999 there are 6627 quarters, up: three times 99999 of them, 24053 of them, and 4297 are the most. */
    private static void wrapping() {
        String most = "before 99999 each 99999 up;".repeat(3) + "before 99999 each 24053 up;";
        paid(most + "base 4296;", Integer.MAX_VALUE - 1);
        paid(most + "base 4297;", Integer.MAX_VALUE);
        paid(most + "base 4298;", Integer.MIN_VALUE);
        paid("base 4299;" + most, Integer.MIN_VALUE + 1);
        paid("before 99999 each 99999 up;".repeat(8), (int) (8L * 6627 * 99999));
        paid("before 99999 each 99999 up;".repeat(7), (int) (7L * 6627 * 99999));
    }

    private static void withoutAgreement() {
        ExtrasOffice x = new ExtrasOffice();
        x.person(30, 170, 0, 0, 10);
        Check.asks(x, ASK);
        x.lay();
        x.step(1, 0);
        Check.due("an AGREEMENT that came too late", Check.agree(x, "base 5;"), 0);
        Check.due("its AGREEMENT", x.record(0, 0, 5), -1);
        Check.due("PAY", x.record(0, 0, 6), 0);
        Check.due("pay", x.pay(0, 0, 0), 0);
        ExtrasOffice y = worked("");
        Check.due("an AGREEMENT of no TERMS is one", y.record(0, 0, 5), 0);
        Check.due("PAY by it", y.record(0, 0, 6), 0);
    }

    private static void numberedFromNothing() {
        ExtrasOffice x = new ExtrasOffice();
        for (int n = 0; n < 30; n++) {
            Check.due("count(2)", x.count(2), n);
            Check.feed(x, "base " + n + ";");
            Check.due("agree()", x.agree(), n);
            Check.due("the TAPE is empty then", x.count(6), 0);
        }
        Check.due("count(2)", x.count(2), 30);
        Check.due("the ASKS stay", x.count(1), 0);
        ExtrasOffice y = Office.busy();
        y.end(0);
        Check.due("agree() of the empty TAPE", y.agree(), 1);
        Check.due("the ASKS stay", y.count(1), 2);
        Check.due("those CALLED stay", y.count(5), 2);
    }

    private static void faultyAgreement() {
        Office.faultLeavesAll("base 1", ExtrasOffice::agree, -3, 6);
        Office.faultLeavesAll("scene 1 at 2 for 3 want 4: anyone;", ExtrasOffice::agree, -3, 0);
        Office.faultLeavesAll("base 1;".repeat(9), ExtrasOffice::agree, -4, 56);
        ExtrasOffice x = new ExtrasOffice();
        Check.due("a FAULT", Check.agree(x, "base 1;base"), -3);
        Check.due("count(2)", x.count(2), 0);
        Check.due("a FAULT takes no number", Check.agree(x, "base 1;"), 0);
    }

    private static ExtrasOffice withThirty() {
        ExtrasOffice x = Office.busy();
        x.end(0);
        for (int n = 1; n < 30; n++) {
            x.agree();
        }
        Check.asks(x, "scene 20");
        Check.feedWithBlanks(x, "scene 3 at 1000 for 9 want 3: anyone;");
        return x;
    }

    private static void thirtyFirst() {
        Office.refusesIn(EdgeAgree::withThirty, "agree() of thirty, with a FAULT on the TAPE", -2, ExtrasOffice::agree);
        ExtrasOffice x = withThirty();
        Check.due("count(2)", x.count(2), 30);
        Check.due("agree()", x.agree(), -2);
        Check.due("the place stays", x.place(), 6);
        Check.due("the TAPE stays", x.count(6), 40);
        Check.due("the TAPE can be read as ASKS", x.asks(), 1);
        Check.feed(x, "base 5;");
        Check.due("agree() without a FAULT", x.agree(), -2);
        Check.due("the TAPE stays", x.count(6), 7);
        Check.due("count(2)", x.count(2), 30);
        x.lay();
        x.step(1, 0);
        Check.due("the latest of thirty", x.record(1, 1, 5), 29);
    }

    /** DAY 0 without AGREEMENT, DAY 1 by base 1, DAY 2 by base 10, DAY 3 by base 100. */
    private static ExtrasOffice fourDays() {
        ExtrasOffice x = Office.of(1);
        for (int day = 0; day < 4; day++) {
            Check.asks(x, ASK);
            x.lay();
            x.step(1, 0);
            Check.agree(x, "base 1" + "0".repeat(day) + ";");
        }
        return x;
    }

    private static void bothDaysToo() {
        ExtrasOffice x = fourDays();
        int[] due = {0, 1, 10, 100};
        for (int from = -1; from <= 4; from++) {
            for (int to = -1; to <= 4; to++) {
                int sum = 0;
                for (int day = Math.max(from, 0); day <= Math.min(to, 3); day++) {
                    sum += due[day];
                }
                Check.due("pay(0, " + from + ", " + to + ")", x.pay(0, from, to), sum);
            }
        }
        Check.due("all there may be", x.pay(0, Edge.LEAST, Edge.HIGHEST), 111);
        Check.due("from the first", x.pay(0, Edge.LEAST, 1), 1);
        Check.due("to the last", x.pay(0, 3, Edge.HIGHEST), 100);
    }

    private static void longsDoNotWrap() {
        String most = "before 99999 each 99999 up;".repeat(3) + "before 99999 each 24053 up;base 4297;";
        ExtrasOffice x = new ExtrasOffice();
        x.person(30, 170, 0, 0, 10);
        Check.agree(x, most);
        for (int day = 0; day < 3; day++) {
            Check.asks(x, ASK);
            x.lay();
            x.step(1, -7 * day);
            Check.due("PAY of the DAY", x.record(0, day, 6), Integer.MAX_VALUE);
        }
        Check.due("of two DAYS", x.pay(0, 0, 1), 2L * Integer.MAX_VALUE);
        Check.due("of three DAYS", x.pay(0, 0, 2), 3L * Integer.MAX_VALUE);
    }

    private static void payOfNothing() {
        Check.due("of a new object", new ExtrasOffice().pay(0, 0, 59), 0);
        ExtrasOffice x = fourDays();
        for (int p : new int[] {-1, 1, 40, Edge.LEAST, Edge.HIGHEST}) {
            Check.due("no such PERSON", x.pay(p, 0, 3), 0);
        }
        Check.due("DAYS to come", x.pay(0, 4, 59), 0);
        Check.due("DAYS to come", x.pay(0, Edge.HIGHEST, Edge.HIGHEST), 0);
        Check.due("DAYS ahead of all", x.pay(0, Edge.LEAST, -1), 0);
        Check.due("from behind to", x.pay(0, 3, 2), 0);
        Check.due("from behind to", x.pay(0, Edge.HIGHEST, Edge.LEAST), 0);
        Office.refuses("pay of one without RECORDS", 0, y -> y.pay(3, 0, 1));
        Office.refuses("pay of DAYS to come", 0, y -> y.pay(0, 1, 1));
    }
}
