import java.util.ArrayList;
import java.util.List;
import java.util.Random;

/** Promises 14 and 15: step, record; against a day that is lived minute by minute. */
final class StepTest {
    public static void main(String[] args) {
        none();
        sixtyDays();
        agreementOfTheDay();
        seedsAtTheEdge();
        Random random = new Random(6);
        for (int n = 0; n < 60; n++) {
            oneRun(random);
        }
        Check.finish("StepTest");
    }

    private static void none() {
        ExtrasOffice x = new ExtrasOffice();
        x.person(20, 170, 0, 0, 5);
        Check.due("nobody is called", x.step(1, 0), -1);
        Check.asks(x, "scene 7 at 0 for 1 want 1: anyone;");
        Check.due("nobody is called", x.step(1, 0), -1);
        Check.due("the asks stay", x.count(1), 1);
        x.lay();
        Check.due("no dressers", x.step(0, 0), -1);
        Check.due("six dressers", x.step(6, 0), -1);
        Check.due("fewer", x.step(-1, 0), -1);
        Check.due("the plan stays", x.called(0), 0);
        Check.due("five dressers", x.step(5, 0), 6);
        Check.due("no asks", x.count(1), 0);
        Check.due("nobody called", x.called(0), -1);
        Check.due("record", x.record(0, 0, 0), 7);
        Check.due("record of no agreement", x.record(0, 0, 5), -1);
        Check.due("pay without agreement", x.record(0, 0, 6), 0);
        Check.due("no such what", x.record(0, 0, 7), -1);
        Check.due("no such what", x.record(0, 0, -1), -1);
        Check.due("no such day", x.record(0, 1, 0), -1);
        Check.due("no such day", x.record(0, -1, 0), -1);
        Check.due("no such person", x.record(1, 0, 0), -1);
        Check.due("no such person", x.record(-1, 0, 0), -1);
    }

    private static void sixtyDays() {
        ExtrasOffice x = new ExtrasOffice();
        x.person(20, 170, 0, 0, 5);
        for (int day = 0; day < 60; day++) {
            Check.asks(x, "scene 7 at 60 for 1 want 1: anyone;");
            Check.due("lay() of day " + day, x.lay(), 1);
            Check.due("step() of day " + day, x.step(1, -7 * day), 66);
        }
        Check.asks(x, "scene 7 at 60 for 1 want 1: anyone;");
        Check.due("lay() of day 60", x.lay(), 1);
        Check.due("step() of day 60", x.step(1, 0), -1);
        Check.due("the plan stays", x.called(0), 0);
        Check.due("count(4)", x.count(4), 60);
        Check.due("count(7)", x.count(7), 60);
        Check.due("turns", x.about(0, 6), 60);
        Check.due("free", x.about(0, 7), 59 * 1440 + 66 + 660);
        Check.due("the last record", x.record(0, 59, 4), 66);
        Check.due("no record", x.record(0, 60, 4), -1);
    }

    private static void agreementOfTheDay() {
        ExtrasOffice x = new ExtrasOffice();
        x.person(20, 170, 0, 0, 5);
        Check.agree(x, "base 3;");
        Check.agree(x, "base 4;");
        Check.asks(x, "scene 7 at 60 for 1 want 1: anyone;");
        x.lay();
        x.step(1, 0);
        Check.agree(x, "base 5;");
        Check.due("the latest then", x.record(0, 0, 5), 1);
        Check.due("pay by it", x.record(0, 0, 6), 4);
    }

    /** Seeds of which NEXT ends in sixteen bits of 1 or of 0, so that one more or less is seen. */
    private static void seedsAtTheEdge() {
        int found = 0;
        for (int seed = 0; seed < 1 << 16; seed++) {
            int next = seed * 1103515245 + 12345;
            if ((next & 0xffff) == 0xffff || (next & 0xffff) == 0) {
                found++;
                ExtrasOffice x = new ExtrasOffice();
                x.person(20, 170, 0, 0, 5);
                Check.asks(x, "scene 7 at 60 for 1 want 1: anyone;");
                x.lay();
                x.step(1, seed);
                Check.due("coming by " + seed, x.record(0, 0, 1), 60 + (next >>> 16) % 20);
            }
        }
        Check.due("such seeds", found, 2);
    }

    private static void oneRun(Random random) {
        ExtrasOffice x = new ExtrasOffice();
        int people = 1 + random.nextInt(40);
        for (int p = 0; p < people; p++) {
            x.person(20, 170, random.nextInt(65536), 0, 1 + random.nextInt(30));
        }
        for (int day = 0; day < 4; day++) {
            StringBuilder text = new StringBuilder();
            int asks = 1 + random.nextInt(6);
            for (int a = 0; a < asks; a++) {
                text.append("scene ").append(random.nextInt(20)).append(" at ").append(300 * day + random.nextInt(60));
                text.append(" for ").append(1 + random.nextInt(200)).append(" want ").append(1 + random.nextInt(8));
                text.append(": look ").append(random.nextInt(16)).append(" or age < 5;");
            }
            Check.asks(x, text.toString());
            if (x.lay() > 0) {
                oneDay(x, x.count(4), 1 + random.nextInt(5), random.nextInt());
            }
        }
    }

    private static void oneDay(ExtrasOffice x, int day, int dressers, int seed) {
        int people = x.count(0);
        int facts = x.count(3);
        int[] ask = new int[people];
        int[] coming = new int[people];
        int[] turns = new int[people];
        int[] free = new int[people];
        int[][] asks = new int[x.count(1)][2];
        for (int a = 0; a < asks.length; a++) {
            asks[a] = new int[] {x.ask(a, 0), x.ask(a, 2)};
        }
        for (int p = 0; p < people; p++) {
            ask[p] = x.called(p);
            turns[p] = x.about(p, 6);
            free[p] = x.about(p, 7);
            int next = (seed + 31 * p + 7 * day) * 1103515245 + 12345;
            coming[p] = ask[p] < 0 ? -1 : x.ask(ask[p], 1) + (next >>> 16) % 20;
        }
        int[] dressed = liveDay(x, ask, coming, dressers);
        int got = x.step(dressers, seed);
        int last = -1;
        for (int p = 0; p < people; p++) {
            int begun = -1;
            for (int q = 0; q < people; q++) {
                begun = ask[q] == ask[p] ? Math.max(begun, dressed[q]) : begun;
            }
            int sent = ask[p] < 0 ? -1 : begun + asks[ask[p]][1];
            last = Math.max(last, sent);
            int scene = ask[p] < 0 ? -1 : asks[ask[p]][0];
            int[] due = {scene, coming[p], dressed[p], ask[p] < 0 ? -1 : begun, sent};
            for (int what = 0; what < due.length; what++) {
                Check.due("record(" + p + ", " + day + ", " + what + ")", x.record(p, day, what), due[what]);
            }
            Check.due("turns", x.about(p, 6), ask[p] < 0 ? turns[p] : turns[p] + 1);
            Check.due("free", x.about(p, 7), ask[p] < 0 ? free[p] : 1440 * day + sent + 660);
            if (ask[p] >= 0) {
                // the facts are told person by person
                Check.due("not seen yet", x.seen(p, scene, facts + 1) - x.seen(p, scene, facts), 1);
                facts++;
            }
        }
        Check.due("step(" + dressers + ", " + seed + ")", got, last);
        Check.due("facts", x.count(3), facts);
        Check.due("the day", x.count(4), day + 1);
    }

    /** When each one is dressed; -1 for those not called. */
    private static int[] liveDay(ExtrasOffice x, int[] ask, int[] coming, int dressers) {
        int[] dressed = new int[ask.length];
        int[] busyTill = new int[dressers];
        List<Integer> waiting = new ArrayList<>();
        for (int p = 0; p < ask.length; p++) {
            dressed[p] = -1;
        }
        for (int minute = 0; minute < 5000; minute++) {
            for (int p = 0; p < ask.length; p++) {
                if (coming[p] == minute) {
                    waiting.add(p);
                }
            }
            for (int d = 0; d < dressers; d++) {
                if (busyTill[d] <= minute && !waiting.isEmpty()) {
                    int p = waiting.remove(0);
                    busyTill[d] = minute + x.about(p, 4);
                    dressed[p] = busyTill[d];
                }
            }
        }
        return dressed;
    }
}
