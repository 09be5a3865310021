import java.util.Random;

/** Whatever is called in whatever order: nothing but seen() ever throws, and the same calls answer the same. */
final class AnyCallsTest {
    private static final String[] TEXTS = {
        "scene 1 at 5 for 9 want 3: look 1 or age > 30; scene 2 at 900 for 600 want 8: not seen 1;",
        "scene 3 at 0 for 1 want 8: anyone; scene 4 at 0 for 1 want 8: home 1; scene 5 at 0 for 1 want 8: look 2;"
            + "scene 6 at 0 for 1 want 8: look 3; scene 7 at 0 for 1 want 8: look 4; scene 8 at 0 for 1 want 8: look 5;",
        "scene 1 at 700 for 9 want 1: (", "base 5; over 60 each 7 up; before 9 each 9 down; after 900 each 8 up;", "base x"
    };

    public static void main(String[] args) {
        for (int run = 0; run < 400; run++) {
            Check.due("run " + run, answers(run), answers(run));
        }
        Check.finish("AnyCallsTest");
    }

    private static long answers(int run) {
        Random random = new Random(run);
        ExtrasOffice x = new ExtrasOffice();
        long all = 0;
        for (int call = 0; call < 512; call++) {
            all = all * 31 + answer(x, random, random.nextInt(26));
        }
        return all;
    }

    private static int number(Random random) {
        switch (random.nextInt(20)) {
            case 0: return random.nextInt();
            case 1: return Integer.MIN_VALUE;
            case 2: return Integer.MAX_VALUE;
            case 3: return -1;
            case 4: return random.nextInt(2000);
            default: return random.nextInt(12);
        }
    }

    private static long answer(ExtrasOffice x, Random random, int call) {
        int a = number(random);
        int b = number(random);
        int c = number(random);
        switch (call) {
            case 0:
            case 1:
            case 2: return x.person(random.nextInt(100), 170, random.nextInt(65536), random.nextInt(4), 1 + a % 29);
            case 3: return x.away(a, random.nextBoolean()) ? 1 : 0;
            case 4: return x.feed(random.nextInt(), a, b, c, 0);
            case 5: return x.end(a);
            case 6: Check.feed(x, x.count(6) > 500 ? "" : TEXTS[random.nextInt(TEXTS.length)]); return 0;
            case 7: return x.asks();
            case 8: return x.agree();
            case 9: return x.place();
            case 10: return x.fits(a, b, c);
            case 11: return x.lay();
            case 12: return x.called(a);
            case 13: return x.no(a);
            case 14: return x.moved(a);
            case 15: return x.step(a, b);
            case 16: return x.record(a, b, c);
            case 17: return x.tell(a, b);
            case 18: return Check.seen(x, a, b, c);
            case 19: return x.retake(a, b);
            case 20: return x.lacks(a);
            case 21: return x.buses(a, b);
            case 22: return x.ask(a, b);
            case 23: return x.about(a, b);
            case 24: return x.pay(a, b, c);
            default: return x.count(a);
        }
    }
}
