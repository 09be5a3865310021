/** Promises 1, 2, 3, 22 and 24: a new object, person, away, about, count. */
final class PeopleTest {
    public static void main(String[] args) {
        newObject();
        bounds();
        fortyPeople();
        away();
        about();
        count();
        Check.finish("PeopleTest");
    }

    private static void newObject() {
        ExtrasOffice x = new ExtrasOffice();
        for (int what = 0; what <= 7; what++) {
            Check.due("new count(" + what + ")", x.count(what), 0);
        }
        Check.due("new place()", x.place(), -1);
        Check.due("new moved(0)", x.moved(0), -1);
        Check.due("new lacks(0)", x.lacks(0), -1);
        Check.due("new pay", x.pay(0, 0, 59), 0);
        Check.due("new lay()", x.lay(), -1);
    }

    private static void bounds() {
        ExtrasOffice x = new ExtrasOffice();
        int[] low = {0, 50, 0, 0, 1};
        int[] high = {99, 230, 65535, 3, 30};
        Check.due("least marks", x.person(0, 50, 0, 0, 1), 0);
        Check.due("highest marks", x.person(99, 230, 65535, 3, 30), 1);
        for (int mark = 0; mark < 5; mark++) {
            for (int wrong : new int[] {low[mark] - 1, high[mark] + 1, Integer.MIN_VALUE, Integer.MAX_VALUE}) {
                int[] m = low.clone();
                m[mark] = wrong;
                Check.due("mark " + mark + " of " + wrong, x.person(m[0], m[1], m[2], m[3], m[4]), -1);
            }
        }
        Check.due("count(0)", x.count(0), 2);
    }

    private static void fortyPeople() {
        ExtrasOffice x = new ExtrasOffice();
        for (int p = 0; p < 40; p++) {
            Check.due("person " + p, x.person(20, 170, 0, 0, 5), p);
        }
        Check.due("a 41st", x.person(20, 170, 0, 0, 5), -1);
        Check.due("count(0)", x.count(0), 40);
        Check.due("about the last", x.about(39, 0), 20);
    }

    private static void away() {
        ExtrasOffice x = new ExtrasOffice();
        x.person(20, 170, 0, 0, 5);
        x.person(20, 170, 0, 0, 5);
        Check.due("away of none", x.away(-1, true), false);
        Check.due("away of none", x.away(2, true), false);
        Check.due("away", x.away(0, true), true);
        Check.due("away", x.about(0, 5), 1);
        Check.due("away again", x.away(0, true), true);
        Check.asks(x, "scene 0 at 0 for 1 want 1:anyone;");
        Check.due("lay()", x.lay(), 1);
        Check.due("called(1)", x.called(1), 0);
        Check.due("away of a called one", x.away(1, true), false);
        Check.due("not away of a called one", x.away(1, false), false);
        Check.due("stays", x.about(1, 5), 0);
        Check.due("back", x.away(0, false), true);
        Check.due("the plan stays", x.called(0), -1);
        Check.due("back", x.about(0, 5), 0);
    }

    private static void about() {
        ExtrasOffice x = new ExtrasOffice();
        x.person(21, 171, 1234, 2, 7);
        int[] due = {21, 171, 1234, 2, 7, 0, 0, 0, -1};
        for (int what = 0; what < due.length; what++) {
            Check.due("about(0, " + what + ")", x.about(0, what), due[what]);
        }
        Check.due("about(0, -1)", x.about(0, -1), -1);
        Check.due("about(1, 0)", x.about(1, 0), -1);
        Check.due("about(-1, 0)", x.about(-1, 0), -1);
    }

    private static void count() {
        ExtrasOffice x = new ExtrasOffice();
        x.person(20, 170, 0, 0, 5);
        x.person(20, 170, 0, 0, 5);
        x.person(20, 170, 0, 0, 5);
        Check.agree(x, "base 1;");
        Check.asks(x, "scene 0 at 0 for 1 want 2:anyone; scene 0 at 0 for 1 want 1: home 1;");
        x.tell(0, 0);
        x.lay();
        x.feed(0, 0, 0, 0, 0);
        int[] before = {3, 2, 1, 1, 0, 2, 20, 0, -1};
        for (int what = 0; what < before.length; what++) {
            Check.due("count(" + what + ")", x.count(what), before[what]);
        }
        x.step(1, 0);
        int[] behind = {3, 0, 1, 3, 1, 0, 20, 2, -1};
        for (int what = 0; what < behind.length; what++) {
            Check.due("count(" + what + ") behind step()", x.count(what), behind[what]);
        }
        Check.due("count(-1)", x.count(-1), -1);
    }
}
