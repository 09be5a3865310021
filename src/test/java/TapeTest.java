/** Promises 4 and 5: feed, end. */
final class TapeTest {
    public static void main(String[] args) {
        order();
        full();
        end();
        Check.finish("TapeTest");
    }

    private static void order() {
        ExtrasOffice x = new ExtrasOffice();
        // "base" "123 " and so on: the highest byte of each number comes first
        Check.due("feed", x.feed(0x62617365, 0x31323320, 0x20202020, 0x20202020, 0x2020203b), 20);
        Check.due("agree()", x.agree(), 0);
        Check.due("feed of high bytes", x.feed(0x62617365, 0x31ff3b20, -1, -1, -1), 20);
        Check.due("agree()", x.agree(), -3);
        Check.due("place()", x.place(), 5);
    }

    private static void full() {
        ExtrasOffice x = new ExtrasOffice();
        for (int n = 1; n <= 50; n++) {
            Check.due("feed " + n, x.feed(0, 0, 0, 0, 0), 20 * n);
        }
        Check.due("feed of 1020", x.feed(0, 0, 0, 0, 0), -1);
        Check.due("count(6)", x.count(6), 1000);
        Check.due("end(981)", x.end(981), 981);
        Check.due("feed of 1001", x.feed(0, 0, 0, 0, 0), -1);
        Check.due("end(980)", x.end(980), 980);
        Check.due("feed of 1000", x.feed(0, 0, 0, 0, 0), 1000);
    }

    private static void end() {
        ExtrasOffice x = new ExtrasOffice();
        Check.due("end(0)", x.end(0), 0);
        Check.due("end(1)", x.end(1), -1);
        Check.due("end(-1)", x.end(-1), -1);
        Check.feed(x, "base 7;base");
        Check.due("end beyond", x.end(12), -1);
        Check.due("end(11)", x.end(11), 11);
        Check.due("end(7)", x.end(7), 7);
        Check.due("end(8)", x.end(8), -1);
        Check.due("agree()", x.agree(), 0);
        Check.due("count(6)", x.count(6), 0);
        // what was cut off does not come back
        Check.feed(x, "base 7;base");
        x.end(6);
        Check.feed(x, "5;");
        Check.due("agree()", x.agree(), 1);
    }
}
