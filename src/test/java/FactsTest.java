/** Promises 16 to 20: tell, seen, retake, lacks, buses. */
final class FactsTest {
    public static void main(String[] args) {
        tell();
        twoHundred();
        seen();
        retake();
        buses();
        Check.finish("FactsTest");
    }

    private static void tell() {
        ExtrasOffice x = new ExtrasOffice();
        Check.due("no such person", x.tell(0, 0), -1);
        x.person(20, 170, 0, 0, 5);
        Check.due("tell", x.tell(0, 0), 0);
        Check.due("tell again", x.tell(0, 0), 1);
        Check.due("tell", x.tell(0, 19), 2);
        Check.due("no such scene", x.tell(0, 20), -1);
        Check.due("no such scene", x.tell(0, -1), -1);
        Check.due("no such person", x.tell(-1, 0), -1);
        Check.due("no such person", x.tell(1, 0), -1);
        Check.due("count(3)", x.count(3), 3);
    }

    private static void twoHundred() {
        ExtrasOffice x = new ExtrasOffice();
        x.person(20, 170, 0, 0, 5);
        for (int n = 0; n < 199; n++) {
            Check.due("tell", x.tell(0, n % 20), n);
        }
        Check.asks(x, "scene 3 at 0 for 1 want 1: anyone;");
        x.lay();
        x.step(1, 0);
        Check.due("a fact of the day does not count", x.tell(0, 4), 200);
        Check.due("a 201st", x.tell(0, 4), -1);
        Check.asks(x, "scene 3 at 1400 for 1 want 1: anyone;");
        x.lay();
        x.step(1, 0);
        Check.due("the day tells on", x.count(3), 202);
        Check.due("seen", Check.seen(x, 0, 3, 202), 12);
        Check.due("seen", Check.seen(x, 0, 3, 201), 11);
    }

    private static void seen() {
        ExtrasOffice x = new ExtrasOffice();
        x.person(20, 170, 0, 0, 5);
        x.person(20, 170, 0, 0, 5);
        Check.due("no facts", Check.seen(x, 0, 0, 0), 0);
        x.tell(0, 5);
        x.tell(1, 5);
        x.tell(0, 5);
        x.tell(0, 6);
        int[] due = {0, 1, 1, 2, 2};
        for (int n = 0; n <= 4; n++) {
            Check.due("seen(0, 5, " + n + ")", Check.seen(x, 0, 5, n), due[n]);
        }
        Check.due("seen(1, 6, 4)", Check.seen(x, 1, 6, 4), 0);
        Check.due("no such n", Check.seen(x, 0, 5, 5), -7);
        Check.due("no such n", Check.seen(x, 0, 5, -1), -7);
        Check.due("no such person", Check.seen(x, 2, 5, 0), -7);
        Check.due("no such person", Check.seen(x, -1, 5, 0), -7);
        Check.due("no such scene", Check.seen(x, 0, 20, 0), -7);
        Check.due("no such scene", Check.seen(x, 0, -1, 0), -7);
    }

    private static void retake() {
        ExtrasOffice x = new ExtrasOffice();
        for (int p = 0; p < 4; p++) {
            x.person(20, 170, 1 << p, 0, 5);
        }
        Check.due("nobody was seen", x.retake(0, 0), 0);
        x.tell(3, 2);
        x.tell(1, 2);
        x.tell(1, 2);
        Check.due("all are here", x.retake(2, 0), 0);
        x.away(3, true);
        x.away(0, true);
        x.away(1, true);
        Check.due("two lack", x.retake(2, 0), 2);
        Check.due("lacks(0)", x.lacks(0), 1);
        Check.due("lacks(1)", x.lacks(1), 3);
        Check.due("lacks(2)", x.lacks(2), -1);
        Check.due("lacks(-1)", x.lacks(-1), -1);
        x.tell(0, 4);
        Check.due("the first one lacks", x.retake(4, 0), 1);
        Check.due("lacks(0)", x.lacks(0), 0);
        Check.due("two lack", x.retake(2, 0), 2);
        x.away(1, false);
        Check.due("lacks(0) as it was", x.lacks(0), 1);
        Check.due("no such scene", x.retake(20, 0), -1);
        Check.due("no such scene", x.retake(-1, 0), -1);
        Check.due("no such minute", x.retake(2, 1440), -1);
        Check.due("no such minute", x.retake(2, -1), -1);
        Check.due("lacks(1) as it was", x.lacks(1), 3);
        Check.asks(x, "scene 2 at 1000 for 100 want 1: look 2;");
        x.lay();
        int free = x.step(1, 0) + 660 - 1440;
        Check.due("one is away", x.retake(2, free), 1);
        Check.due("lacks(0)", x.lacks(0), 3);
        Check.due("one is not free", x.retake(2, free - 1), 2);
        Check.due("lacks(0)", x.lacks(0), 2);
        Check.due("lacks(1)", x.lacks(1), 3);
        Check.due("the highest minute", x.retake(2, 1439), 1);
        Check.due("another scene", x.retake(3, 0), 0);
        Check.due("lacks(0)", x.lacks(0), -1);
    }

    private static void buses() {
        ExtrasOffice x = new ExtrasOffice();
        for (int p = 0; p < 7; p++) {
            x.person(20, 170, 0, p == 6 ? 3 : 1, 5);
        }
        Check.due("nobody is called", x.buses(1, 1), 0);
        Check.asks(x, "scene 0 at 0 for 1 want 7: anyone;");
        x.lay();
        int[] due = {6, 3, 2, 2, 2, 1, 1};
        for (int seats = 1; seats <= 7; seats++) {
            Check.due("buses(1, " + seats + ")", x.buses(1, seats), due[seats - 1]);
        }
        Check.due("buses(1, 100)", x.buses(1, 100), 1);
        Check.due("buses(3, 1)", x.buses(3, 1), 1);
        Check.due("buses(0, 1)", x.buses(0, 1), 0);
        Check.due("no such home", x.buses(4, 1), -1);
        Check.due("no such home", x.buses(-1, 1), -1);
        Check.due("no such seats", x.buses(1, 0), -1);
        Check.due("no such seats", x.buses(1, -1), -1);
        Check.due("no such seats", x.buses(1, 101), -1);
        x.no(0);
        Check.due("one less", x.buses(1, 5), 1);
    }
}
