/** Promises 7, 8 and 23: agree, place, pay; with the pay of a record of promise 15. */
final class AgreeTest {
    public static void main(String[] args) {
        unfit();
        thirty();
        terms();
        pay();
        wrapping();
        Check.finish("AgreeTest");
    }

    private static void unfit() {
        Check.agreeFault("base", 1, 4);
        Check.agreeFault("bas 1;", 1, 0);
        Check.agreeFault("base 1", 1, 6);
        Check.agreeFault("base 1 up;", 1, 7);
        Check.agreeFault("base -1;", 1, 5);
        Check.agreeFault("base 100000;", 1, 5);
        Check.agreeFault("over 1 2", 1, 7);
        Check.agreeFault("over 1 each up;", 1, 12);
        Check.agreeFault("over 1 each 1;", 1, 13);
        Check.agreeFault("before 1 each 1 ups;", 1, 16);
        Check.agreeFault("after 1 each 1 down up;", 1, 20);
        Check.agreeFault("after 000000 each", 1, 6);
        Check.agreeFault("scene 1", 1, 0);
        Check.agreeFault("base 1;".repeat(8) + " after", 2, 57);
        Check.agreeFault("base 1;".repeat(8) + " each", 1, 57);
        Check.agreeFault("base 1;".repeat(8) + ";", 1, 56);
        ExtrasOffice x = new ExtrasOffice();
        Check.due("eight", Check.agree(x, "base99999;".repeat(8)), 0);
        Check.due("none", Check.agree(x, "\n"), 1);
        Check.due("a fault", Check.agree(x, "base"), -3);
        Check.due("count(2)", x.count(2), 2);
    }

    private static void thirty() {
        ExtrasOffice x = new ExtrasOffice();
        for (int n = 0; n < 30; n++) {
            Check.due("agree() " + n, x.agree(), n);
        }
        Check.asks(x, "scene x");
        Check.due("place()", x.place(), 6);
        Check.feed(x, "base");
        Check.due("a 31st", x.agree(), -2);
        Check.due("the place stays", x.place(), 6);
        Check.due("the tape stays", x.count(6), 4);
        Check.due("count(2)", x.count(2), 30);
    }

    /** One person, called at 600, dressed by 610, sent at 655. */
    private static ExtrasOffice worked(String agreement) {
        ExtrasOffice x = new ExtrasOffice();
        x.person(30, 170, 0, 0, 10);
        Check.due(agreement, Check.agree(x, agreement), 0);
        Check.asks(x, "scene 2 at 600 for 45 want 1:anyone;");
        x.lay();
        Check.due("step", x.step(1, 0), 655);
        return x;
    }

    private static void terms() {
        String[] texts = {"", "base 7;", "base 7;base 8;", "over 0 each 10 down;", "over 0 each 10 up;", "over 40 each 10 up;",
            "over 40 each 10 down;", "over 54 each 10 up;", "over 55 each 10 up;", "over 56 each 10 up;",
            "over 99999 each 9 up;", "before 600 each 3 up;", "before 601 each 3 up;", "before 601 each 3 down;",
            "before 615 each 3 down;", "before 616 each 3 up;", "before 800 each 3 down;", "after 655 each 5 up;",
            "after 654 each 5 up;", "after 654 each 5 down;", "after 640 each 5 down;", "after 639 each 5 up;",
            "after 0 each 1 down;", "after 0 each 1 up;", "base 1;over 0 each 1 up;before 660 each 1 up;after 0 each 0 up;"};
        int[] due = {0, 7, 15, 30, 40, 10, 10, 10, 0, 0, 0, 0, 3, 0, 3, 6, 39, 0, 5, 0, 5, 10, 43, 44, 9};
        for (int t = 0; t < texts.length; t++) {
            Check.due(texts[t], worked(texts[t]).record(0, 0, 6), due[t]);
        }
    }

    private static void pay() {
        ExtrasOffice x = new ExtrasOffice();
        x.person(30, 170, 0, 0, 10);
        for (int day = 0; day < 4; day++) {
            Check.asks(x, "scene 2 at 600 for 1 want 1:anyone;");
            x.lay();
            x.step(1, 0);
            // day 0 is without an agreement, day 1 by base 1, and so on
            Check.agree(x, "base 1" + "0".repeat(day) + ";");
        }
        Check.due("pay", x.pay(0, 0, 0), 0);
        Check.due("pay", x.pay(0, 1, 1), 1);
        Check.due("pay", x.pay(0, 0, 3), 111);
        Check.due("pay", x.pay(0, 2, 3), 110);
        Check.due("pay", x.pay(0, 2, 2), 10);
        Check.due("pay", x.pay(0, 3, 2), 0);
        Check.due("pay", x.pay(0, Integer.MIN_VALUE, Integer.MAX_VALUE), 111);
        Check.due("pay", x.pay(0, 4, Integer.MAX_VALUE), 0);
        Check.due("pay", x.pay(0, Integer.MAX_VALUE, Integer.MIN_VALUE), 0);
        Check.due("pay of none", x.pay(1, 0, 3), 0);
        Check.due("pay of none", x.pay(-1, 0, 3), 0);
    }

    private static void wrapping() {
        String text = "before 99999 each 99999 up;".repeat(8);
        int quarters = (99999 - 600 + 14) / 15;
        long all = 8L * quarters * 99999;
        ExtrasOffice x = worked(text);
        Check.due("it wraps", all > Integer.MAX_VALUE, true);
        Check.due(text, x.record(0, 0, 6), (int) all);
        Check.due("pay", x.pay(0, 0, 0), (int) all);
        String small = "before 99999 each 20000 up;before 99999 each 20000 up;";
        long each = 2L * quarters * 20000;
        ExtrasOffice y = new ExtrasOffice();
        y.person(30, 170, 0, 0, 10);
        Check.agree(y, small.repeat(4));
        for (int day = 0; day < 3; day++) {
            Check.asks(y, "scene 2 at 600 for 45 want 1:anyone;");
            y.lay();
            Check.due("the same coming", y.step(1, -7 * day), 655);
        }
        Check.due("no wrap beyond a record", y.pay(0, 0, 2), 3L * (4 * (int) each));
    }
}
