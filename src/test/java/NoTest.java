import java.util.ArrayList;
import java.util.List;
import java.util.Random;

/** Promises 12 and 13: no, moved; against all rows that there are. */
final class NoTest {
    private final ExtrasOffice x;
    private final int[] plan;
    private final int said;
    private List<Integer> best = null;

    private NoTest(ExtrasOffice x, int said) {
        this.x = x;
        this.said = said;
        plan = new int[x.count(0)];
        for (int p = 0; p < plan.length; p++) {
            plan[p] = x.called(p);
        }
    }

    public static void main(String[] args) {
        examples();
        factsInBetween();
        Random random = new Random(4);
        for (int n = 0; n < 400; n++) {
            oneRun(random);
        }
        Check.finish("NoTest");
    }

    private static void examples() {
        ExtrasOffice x = new ExtrasOffice();
        Check.due("no of none", x.no(0), -1);
        Check.due("no of none", x.no(-1), -1);
        x.person(20, 170, 1, 0, 5);
        x.person(20, 170, 3, 0, 5);
        x.person(20, 170, 2, 0, 5);
        Check.due("no of one not called", x.no(0), -1);
        Check.asks(x, "scene 0 at 0 for 1 want 1: look 0; scene 1 at 0 for 1 want 1: look 1;");
        x.lay();
        Check.due("no(0)", x.no(0), 2);
        Check.due("moved(0)", x.moved(0), 1);
        Check.due("moved(1)", x.moved(1), 2);
        Check.due("moved(2)", x.moved(2), -1);
        Check.due("moved(-1)", x.moved(-1), -1);
        Check.due("called(0)", x.called(0), -1);
        Check.due("called(1)", x.called(1), 0);
        Check.due("called(2)", x.called(2), 1);
        Check.due("away", x.about(0, 5), 1);
        Check.due("no(0) again", x.no(0), -1);
        Check.due("the row stays", x.moved(0), 1);
        x.step(1, 0);
        Check.asks(x, "");
        Check.due("the row stays", x.moved(1), 2);
        Check.asks(x, "scene 0 at 1400 for 1 want 1: look 1;");
        x.lay();
        Check.due("no(1)", x.no(1), 1);
        Check.due("moved(0)", x.moved(0), 2);
        Check.due("moved(1)", x.moved(1), -1);
        Check.due("no(2)", x.no(2), 0);
        Check.due("moved(0)", x.moved(0), -1);
        Check.due("count(5)", x.count(5), 0);
    }

    /** Who can be in an ask is asked when the no is said. */
    private static void factsInBetween() {
        ExtrasOffice x = new ExtrasOffice();
        x.person(20, 170, 0, 0, 5);
        x.person(20, 170, 0, 0, 5);
        x.person(20, 170, 0, 0, 5);
        Check.asks(x, "scene 0 at 0 for 1 want 1: not seen 5;");
        x.lay();
        x.tell(1, 5);
        Check.due("no(0)", x.no(0), 1);
        Check.due("moved(0)", x.moved(0), 2);
    }

    private static void oneRun(Random random) {
        ExtrasOffice x = new ExtrasOffice();
        int people = 2 + random.nextInt(8);
        for (int p = 0; p < people; p++) {
            x.person(20, 170, random.nextInt(64) & random.nextInt(64), 0, 5);
        }
        StringBuilder text = new StringBuilder();
        int asks = 1 + random.nextInt(6);
        for (int a = 0; a < asks; a++) {
            text.append("scene 0 at 9 for 9 want ").append(1 + random.nextInt(2)).append(": look ").append(a).append(";");
        }
        int away = random.nextInt(people);
        x.away(away, true);
        Check.asks(x, text.toString());
        x.lay();
        x.away(away, false);
        for (int n = 0; n < 4; n++) {
            said(x, random.nextInt(people));
        }
    }

    private static void said(ExtrasOffice x, int p) {
        NoTest all = new NoTest(x, p);
        int got = x.no(p);
        if (all.plan[p] < 0) {
            Check.due("no(" + p + ")", got, -1);
            return;
        }
        all.tryFor(all.plan[p], new ArrayList<>());
        List<Integer> row = all.best == null ? new ArrayList<>() : all.best;
        Check.due("no(" + p + ")", got, row.size());
        int ask = all.plan[p];
        all.plan[p] = -1;
        for (int i = 0; i < row.size(); i++) {
            Check.due("moved(" + i + ")", x.moved(i), row.get(i));
            int left = all.plan[row.get(i)];
            all.plan[row.get(i)] = ask;
            ask = left;
        }
        Check.due("moved behind the row", x.moved(row.size()), -1);
        for (int each = 0; each < all.plan.length; each++) {
            Check.due("called(" + each + ")", x.called(each), all.plan[each]);
        }
        Check.due("away", x.about(p, 5), 1);
    }

    private void tryFor(int ask, List<Integer> row) {
        if (best != null && row.size() >= best.size()) {
            return;
        }
        for (int one = 0; one < plan.length; one++) {
            if (one != said && !row.contains(one) && plan[one] != ask && x.fits(one, ask, 1) == 1) {
                row.add(one);
                if (plan[one] >= 0) {
                    tryFor(plan[one], row);
                } else if (best == null || row.size() < best.size()) {
                    best = new ArrayList<>(row);
                }
                row.remove(row.size() - 1);
            }
        }
    }
}
