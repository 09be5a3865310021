import java.util.Random;

/** Promises 10 and 11: lay, called; against all plans that there are. */
final class LayTest {
    private final ExtrasOffice x;
    private final int people;
    private final int asks;
    private final int[] now;
    private final int[] free;
    private int[] best = null;

    private LayTest(ExtrasOffice x) {
        this.x = x;
        people = x.count(0);
        asks = x.count(1);
        now = new int[people];
        free = new int[asks];
        for (int a = 0; a < asks; a++) {
            free[a] = x.ask(a, 3);
        }
    }

    public static void main(String[] args) {
        examples();
        many();
        Random random = new Random(3);
        for (int n = 0; n < 300; n++) {
            oneRun(random);
        }
        Check.finish("LayTest");
    }

    private static void examples() {
        ExtrasOffice x = new ExtrasOffice();
        Check.due("lay() without asks", x.lay(), -1);
        Check.asks(x, "scene 0 at 0 for 1 want 1: look 0; scene 1 at 0 for 1 want 1: anyone;");
        Check.due("lay() without people", x.lay(), 0);
        x.person(20, 170, 1, 0, 5);
        x.person(20, 170, 1, 0, 5);
        x.person(20, 170, 1, 0, 5);
        Check.due("lay()", x.lay(), 2);
        Check.due("called(0)", x.called(0), 0);
        Check.due("called(1)", x.called(1), 1);
        Check.due("called(2)", x.called(2), -1);
        Check.due("called(3)", x.called(3), -1);
        Check.due("called(-1)", x.called(-1), -1);
        x.no(0);
        Check.due("lay() anew", x.lay(), 2);
        Check.due("called(0)", x.called(0), -1);
        Check.due("called(1)", x.called(1), 0);
        Check.due("called(2)", x.called(2), 1);
        x.away(0, false);
        Check.due("lay() anew", x.lay(), 2);
        Check.due("called(0)", x.called(0), 0);
        Check.due("ask(0, 4)", x.ask(0, 4), 1);
        Check.due("count(5)", x.count(5), 2);
    }

    /** Forty people and forty-eight places: everyone is called, in the least asks there are. */
    private static void many() {
        ExtrasOffice x = new ExtrasOffice();
        for (int p = 0; p < 40; p++) {
            x.person(p, 170, p % 6 == 5 ? 32 : 63, 0, 5);
        }
        StringBuilder text = new StringBuilder();
        for (int a = 0; a < 6; a++) {
            text.append("scene 0 at 0 for 1 want 8: look ").append(a).append(";");
        }
        Check.asks(x, text.toString());
        Check.due("lay()", x.lay(), 40);
        int others = 0;
        for (int p = 0; p < 40; p++) {
            Check.due("called(" + p + ")", x.called(p), p % 6 == 5 ? 5 : others++ / 8);
        }
    }

    private static void oneRun(Random random) {
        ExtrasOffice x = new ExtrasOffice();
        int people = 1 + random.nextInt(7);
        for (int p = 0; p < people; p++) {
            x.person(20, 170, random.nextInt(64) & random.nextInt(64), random.nextInt(4), 1 + random.nextInt(30));
        }
        for (int day = 0; day < 6; day++) {
            x.away(random.nextInt(people), true);
            x.away(random.nextInt(people), false);
            Check.asks(x, text(random, random.nextInt(900)));
            LayTest all = new LayTest(x);
            all.tryFrom(0);
            Check.due("lay()", x.lay(), size(all.best));
            for (int p = 0; p < people; p++) {
                Check.due("called(" + p + ")", x.called(p), all.best[p]);
            }
            x.step(1 + random.nextInt(5), random.nextInt());
        }
    }

    private static String text(Random random, int from) {
        StringBuilder text = new StringBuilder();
        int asks = 1 + random.nextInt(4);
        for (int a = 0; a < asks; a++) {
            text.append("scene ").append(random.nextInt(20)).append(" at ").append(from + random.nextInt(500));
            text.append(" for ").append(1 + random.nextInt(600)).append(" want ").append(1 + random.nextInt(3));
            text.append(random.nextInt(4) == 0 ? ": anyone;" : ": look " + random.nextInt(6) + ";");
        }
        return text.toString();
    }

    private void tryFrom(int p) {
        if (p == people) {
            if (best == null || isBetter()) {
                best = now.clone();
            }
            return;
        }
        now[p] = -1;
        tryFrom(p + 1);
        for (int a = 0; a < asks; a++) {
            if (free[a] > 0 && x.fits(p, a, 1) == 1) {
                free[a]--;
                now[p] = a;
                tryFrom(p + 1);
                free[a]++;
            }
        }
        now[p] = -1;
    }

    private boolean isBetter() {
        if (size(now) != size(best)) {
            return size(now) > size(best);
        }
        if (turns(now) != turns(best)) {
            return turns(now) < turns(best);
        }
        for (int p = 0; p < people; p++) {
            if ((now[p] < 0) != (best[p] < 0)) {
                return now[p] >= 0;
            }
        }
        for (int p = 0; p < people; p++) {
            if (now[p] != best[p]) {
                return now[p] < best[p];
            }
        }
        return false;
    }

    private static int size(int[] plan) {
        int size = 0;
        for (int ask : plan) {
            size += ask < 0 ? 0 : 1;
        }
        return size;
    }

    private int turns(int[] plan) {
        int turns = 0;
        for (int p = 0; p < people; p++) {
            turns += plan[p] < 0 ? 0 : x.about(p, 6);
        }
        return turns;
    }
}
