import java.util.Random;

/** All promises together: runs of up to 512 calls, each answer compared with that of PlainOffice. */
final class LongRunsTest {
    private static final int MOST_CALLS = 512;
    private static final int READ_ASKS = 2;
    private static final String[] WORDS = {"over", "before", "after"};

    private final ExtrasOffice x = new ExtrasOffice();
    private final PlainOffice plain = new PlainOffice();
    private final Random random;
    private final int run;
    private final int people;
    /** Short texts, so that more days go by. */
    private final boolean brief;
    private int calls = 0;
    private int wrong = Check.wrong();

    private LongRunsTest(int run) {
        this.run = run;
        random = new Random(run);
        people = random.nextInt(3) == 0 ? 25 + random.nextInt(16) : 1 + random.nextInt(9);
        brief = random.nextInt(3) == 0;
    }

    public static void main(String[] args) {
        int runs = args.length > 0 ? Integer.parseInt(args[0]) : 300;
        for (int run = 0; run < runs; run++) {
            new LongRunsTest(run).live();
        }
        Check.finish("LongRunsTest");
    }

    private void live() {
        for (int p = 0; p < people; p++) {
            addPerson();
        }
        // no deed takes more calls than these
        while (calls < MOST_CALLS - 60 && Check.wrong() == wrong) {
            boolean asksWait = plain.count(1) == 0 && below(2) == 0;
            doSomething(asksWait ? READ_ASKS : below(20));
        }
        while (calls < MOST_CALLS && Check.wrong() == wrong) {
            lookAtSomething();
        }
    }

    private void due(String call, long got, long want) {
        calls++;
        Check.due("run " + run + ", call " + calls + ", " + call, got, want);
    }

    private int below(int bound) {
        return random.nextInt(bound);
    }

    /** Mostly within the bounds, at times just outside, seldom far outside. */
    private int number(int low, int high) {
        switch (below(100)) {
            case 0: return random.nextInt();
            case 1: return low - 1;
            case 2: return high + 1;
            case 3: return low;
            case 4: return high;
            default: return low + below(high - low + 1);
        }
    }

    private int somebody() {
        return number(0, Math.max(plain.count(0) - 1, 0));
    }

    private int someDay() {
        return number(0, Math.max(plain.count(4) - 1, 0));
    }

    /** Few of the twenty, so that they meet. */
    private int someScene() {
        return below(3) == 0 ? number(0, 19) : below(3);
    }

    private void addPerson() {
        int age = number(0, 99);
        int tall = number(50, 230);
        int looks = number(0, 65535);
        int home = number(0, 3);
        int slow = number(1, 30);
        due("person(" + age + ", " + tall + ", " + looks + ", " + home + ", " + slow + ")",
                x.person(age, tall, looks, home, slow), plain.person(age, tall, looks, home, slow));
    }

    private void doSomething(int deed) {
        switch (deed) {
            case 0: addPerson(); break;
            case 1: setAway(); break;
            case READ_ASKS:
            case 3: readAsks(); break;
            case 4:
            case 5: readAgreement(); break;
            case 6:
            case 7: layPlan(); break;
            case 8:
            case 9:
            case 10: sayNo(); break;
            case 11:
            case 12:
            case 13: step(); break;
            case 14: tellFact(); break;
            case 15: retake(); break;
            case 16: touchTape(); break;
            default: lookAtSomething(); break;
        }
    }

    private void setAway() {
        int p = somebody();
        boolean is = below(3) == 0;
        due("away(" + p + ", " + is + ")", x.away(p, is) ? 1 : 0, plain.away(p, is));
    }

    private void feed(int... n) {
        due("feed()", x.feed(n[0], n[1], n[2], n[3], n[4]), plain.feed(n));
    }

    private void end(int n) {
        due("end(" + n + ")", x.end(n), plain.end(n));
    }

    /** Few calls: what is left of the last twenty bytes is blanks, or is cut off. */
    private void feedText(String text) {
        int ahead = plain.count(6);
        for (int at = 0; at < text.length(); at += 20) {
            int[] numbers = new int[5];
            for (int i = 0; i < 20; i++) {
                numbers[i / 4] = numbers[i / 4] << 8 | (at + i < text.length() ? text.charAt(at + i) : ' ');
            }
            feed(numbers);
        }
        if (below(2) == 0) {
            end(ahead + text.length());
        }
    }

    private String perhapsBroken(StringBuilder text) {
        if (below(8) == 0 && text.length() > 0) {
            text.setCharAt(below(text.length()), "aet09:;()<>n \n=\u00e9".charAt(below(16)));
        }
        return text.toString();
    }

    private void readAsks() {
        StringBuilder text = new StringBuilder();
        int asks = below(30) == 0 ? 7 : 1 + below(brief ? 2 : 6);
        for (int a = 0; a < asks; a++) {
            int at = below(3) == 0 ? below(1440) : 900 + below(300);
            text.append("scene ").append(below(3) == 0 ? below(20) : below(3)).append(" at ").append(at);
            text.append(" for ").append(1 + below(below(2) == 0 ? 600 : 90));
            text.append(" want ").append(1 + below(people > 9 ? 8 : 3)).append(":");
            any(text, brief ? 0 : below(3));
            text.append(";");
        }
        if (plain.count(6) + text.length() > 980 || text.length() > 600) {
            end(0);
            return;
        }
        feedText(perhapsBroken(text));
        due("asks()", x.asks(), plain.asks());
        due("place()", x.place(), plain.place());
    }

    private void any(StringBuilder text, int depth) {
        one(text, depth);
        while (below(4) == 0) {
            text.append(below(3) == 0 ? " and " : " or ");
            one(text, depth);
        }
    }

    private void one(StringBuilder text, int depth) {
        int kind = below(depth > 0 ? 14 : 10);
        switch (kind) {
            case 0:
            case 1: text.append("anyone"); break;
            case 2: text.append("home ").append(below(4)); break;
            case 3: text.append("seen ").append(below(3)); break;
            case 4: text.append("age").append(below(2) == 0 ? '<' : '>').append(below(100)); break;
            case 5: text.append("tall").append(below(2) == 0 ? " < " : " > ").append(50 + below(181)); break;
            case 10:
            case 11: text.append("not "); one(text, depth - 1); break;
            case 12:
            case 13: text.append('('); any(text, depth - 1); text.append(')'); break;
            default: text.append("look ").append(below(16)); break;
        }
    }

    private void readAgreement() {
        StringBuilder text = new StringBuilder();
        int terms = below(30) == 0 ? 9 : below(5);
        for (int t = 0; t < terms; t++) {
            if (below(4) == 0) {
                text.append("base ").append(below(100000)).append(";");
            } else {
                text.append(WORDS[below(3)]).append(' ').append(below(below(4) == 0 ? 100000 : 1800)).append(" each ");
                text.append(below(below(2) == 0 ? 100000 : 10)).append(below(2) == 0 ? " up;" : " down;");
            }
        }
        if (plain.count(6) + text.length() <= 980) {
            feedText(perhapsBroken(text));
        }
        due("agree()", x.agree(), plain.agree());
        due("place()", x.place(), plain.place());
    }

    private void lookAtPlan() {
        for (int p = 0; p < plain.count(0); p++) {
            due("called(" + p + ")", x.called(p), plain.called(p));
        }
    }

    private void layPlan() {
        due("lay()", x.lay(), plain.lay());
        lookAtPlan();
    }

    private void sayNo() {
        if (plain.count(5) == 0 && below(4) > 0) {
            due("lay()", x.lay(), plain.lay());
        }
        int p = somebody();
        for (int n = 0; n < plain.count(0) && plain.called(p) < 0; n++) {
            p = (Math.max(p, 0) + 1) % plain.count(0);
        }
        due("no(" + p + ")", x.no(p), plain.no(p));
        for (int i = 0; i < 3; i++) {
            due("moved(" + i + ")", x.moved(i), plain.moved(i));
        }
        if (below(3) == 0) {
            lookAtPlan();
        }
    }

    private void step() {
        if (plain.count(5) == 0 && below(4) > 0) {
            due("lay()", x.lay(), plain.lay());
        }
        int dressers = number(1, 5);
        int seed = below(2) == 0 ? random.nextInt() : below(200);
        int day = plain.count(4);
        due("step(" + dressers + ", " + seed + ")", x.step(dressers, seed), plain.step(dressers, seed));
        for (int n = 0; n < 4; n++) {
            int p = somebody();
            lookAtRecord(p, day, number(0, 6));
        }
    }

    private void tellFact() {
        int p = somebody();
        int scene = someScene();
        due("tell(" + p + ", " + scene + ")", x.tell(p, scene), plain.tell(p, scene));
    }

    private void retake() {
        int scene = someScene();
        int minute = number(0, 1439);
        due("retake(" + scene + ", " + minute + ")", x.retake(scene, minute), plain.retake(scene, minute));
        for (int i = -1; i < 3; i++) {
            due("lacks(" + i + ")", x.lacks(i), plain.lacks(i));
        }
    }

    private void touchTape() {
        if (below(2) == 0) {
            feed(random.nextInt(), random.nextInt(), random.nextInt(), random.nextInt(), random.nextInt());
        } else {
            end(number(0, plain.count(6)));
        }
    }

    private void lookAtSomething() {
        int p = somebody();
        int scene = someScene();
        int what = number(0, 7);
        int other = number(0, 6);
        int day = someDay();
        switch (below(11)) {
            case 0: lookAtFits(p, other, number(0, 1)); break;
            case 1: due("called(" + p + ")", x.called(p), plain.called(p)); break;
            case 2: due("moved(" + other + ")", x.moved(other), plain.moved(other)); break;
            case 3: lookAtRecord(p, day, other); break;
            case 4: lookAtFacts(p, scene, number(0, plain.count(3))); break;
            case 5: due("lacks(" + other + ")", x.lacks(other), plain.lacks(other)); break;
            case 6: lookAtBuses(number(0, 3), below(2) == 0 ? number(1, 100) : number(1, 5)); break;
            case 7: due("ask(" + other + ", " + what + ")", x.ask(other, what), plain.ask(other, what)); break;
            case 8: due("about(" + p + ", " + what + ")", x.about(p, what), plain.about(p, what)); break;
            case 9: lookAtPay(p, day, someDay()); break;
            default: due("count(" + what + ")", x.count(what), plain.count(what)); break;
        }
    }

    private void lookAtFits(int p, int ask, int what) {
        due("fits(" + p + ", " + ask + ", " + what + ")", x.fits(p, ask, what), plain.fits(p, ask, what));
    }

    private void lookAtRecord(int p, int day, int what) {
        due("record(" + p + ", " + day + ", " + what + ")", x.record(p, day, what), plain.record(p, day, what));
    }

    private void lookAtFacts(int p, int scene, int n) {
        due("seen(" + p + ", " + scene + ", " + n + ")", Check.seen(x, p, scene, n), plain.seen(p, scene, n));
    }

    private void lookAtBuses(int home, int seats) {
        due("buses(" + home + ", " + seats + ")", x.buses(home, seats), plain.buses(home, seats));
    }

    private void lookAtPay(int p, int from, int to) {
        due("pay(" + p + ", " + from + ", " + to + ")", x.pay(p, from, to), plain.pay(p, from, to));
    }
}
