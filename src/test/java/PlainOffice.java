import java.math.BigInteger;
import java.util.ArrayList;
import java.util.Arrays;
import java.util.Comparator;
import java.util.List;
import java.util.function.IntPredicate;
import java.util.regex.Matcher;
import java.util.regex.Pattern;

/**
 * The document told a second time, by other means than the class: texts as closures, the PLAN as the dearest flow, the
 * row that mends as a search over people. It reads texts without FAULTS alone; LongRunsTest asks FaultTest for these.
 */
final class PlainOffice {
    private static final Pattern TOKEN = Pattern.compile("[a-z]+|[0-9]+|[():;<>]");
    private static final int ASKS_AT_MOST = 6;
    private static final int PEOPLE_AT_MOST = 40;

    private static final class Someone {
        int[] told;
        boolean away;
        int turns;
        int free;
        int ask = -1;
    }

    private static final class Wanted {
        final int[] told = new int[4];
        IntPredicate fits;
    }

    private record Kept(int person, int day, int[] numbers) {
    }

    private final List<Someone> people = new ArrayList<>();
    private final List<int[]> facts = new ArrayList<>();
    private final List<List<String>> agreements = new ArrayList<>();
    private final List<Kept> kept = new ArrayList<>();
    private List<Wanted> asks = new ArrayList<>();
    private List<Integer> row = new ArrayList<>();
    private List<Integer> lacking = new ArrayList<>();
    private List<String> tokens;
    private int nextToken;
    private String tape = "";
    private int place = -1;
    private int told = 0;
    private int day = 0;

    private static boolean in(int number, int low, int high) {
        return low <= number && number <= high;
    }

    private boolean isPerson(int p) {
        return in(p, 0, people.size() - 1);
    }

    private boolean isAsk(int a) {
        return in(a, 0, asks.size() - 1);
    }

    int person(int... numbers) {
        boolean asTold = in(numbers[0], 0, 99) && in(numbers[1], 50, 230) && in(numbers[2], 0, 65535)
                && in(numbers[3], 0, 3) && in(numbers[4], 1, 30);
        if (!asTold || people.size() == PEOPLE_AT_MOST) {
            return -1;
        }
        Someone one = new Someone();
        one.told = numbers;
        people.add(one);
        return people.size() - 1;
    }

    int away(int p, boolean is) {
        if (called(p) >= 0 || !isPerson(p)) {
            return 0;
        }
        people.get(p).away = is;
        return 1;
    }

    int feed(int... numbers) {
        if (tape.length() > 980) {
            return -1;
        }
        for (int i = 0; i < 20; i++) {
            tape += (char) (numbers[i / 4] >>> 24 - 8 * (i % 4) & 0xff);
        }
        return tape.length();
    }

    int end(int n) {
        if (!in(n, 0, tape.length())) {
            return -1;
        }
        tape = tape.substring(0, n);
        return n;
    }

    /** Whether the tape's text stands, of which the fault is known from elsewhere; its tokens wait then. */
    private boolean takeText(int[] fault) {
        tokens = new ArrayList<>();
        nextToken = 0;
        Matcher matcher = TOKEN.matcher(tape);
        while (matcher.find()) {
            tokens.add(matcher.group());
        }
        tape = "";
        place = fault[1];
        return fault[0] == 0;
    }

    int asks() {
        int[] fault = FaultTest.ofAsks(tape);
        if (!takeText(fault)) {
            return -2 - fault[0];
        }
        people.forEach(one -> one.ask = -1);
        asks = new ArrayList<>();
        while (nextToken < tokens.size()) {
            Wanted wanted = new Wanted();
            for (int i = 0; i < 4; i++) {
                nextToken++;
                wanted.told[i] = Integer.parseInt(tokens.get(nextToken++));
            }
            nextToken++;
            wanted.fits = any();
            nextToken++;
            asks.add(wanted);
        }
        return asks.size();
    }

    private boolean passes(String token) {
        boolean is = tokens.get(nextToken).equals(token);
        nextToken += is ? 1 : 0;
        return is;
    }

    private IntPredicate any() {
        IntPredicate one = both();
        return passes("or") ? one.or(any()) : one;
    }

    private IntPredicate both() {
        IntPredicate one = mark();
        return passes("and") ? one.and(both()) : one;
    }

    private IntPredicate mark() {
        if (passes("not")) {
            return mark().negate();
        }
        if (passes("(")) {
            IntPredicate inner = any();
            nextToken++;
            return inner;
        }
        if (passes("anyone")) {
            return p -> true;
        }
        String word = tokens.get(nextToken++);
        boolean less = passes("<");
        boolean more = passes(">");
        int number = Integer.parseInt(tokens.get(nextToken++));
        switch (word) {
            case "look": return p -> Integer.toBinaryString(65536 + people.get(p).told[2]).charAt(16 - number) == '1';
            case "home": return p -> people.get(p).told[3] == number;
            case "seen": return p -> countFacts(p, number, facts.size()) > 0;
            default:
                int which = word.equals("age") ? 0 : 1;
                return p -> less && people.get(p).told[which] < number || more && people.get(p).told[which] > number;
        }
    }

    int agree() {
        if (agreements.size() == 30) {
            return -2;
        }
        int[] fault = FaultTest.ofAgreement(tape);
        if (!takeText(fault)) {
            return -2 - fault[0];
        }
        agreements.add(tokens);
        return agreements.size() - 1;
    }

    int place() {
        return place;
    }

    int fits(int p, int ask, int what) {
        if (!isPerson(p) || !isAsk(ask) || !in(what, 0, 1)) {
            return -1;
        }
        return (what == 0 ? asks.get(ask).fits.test(p) : can(p, ask)) ? 1 : 0;
    }

    private boolean can(int p, int ask) {
        Someone one = people.get(p);
        return asks.get(ask).fits.test(p) && !one.away && one.free <= 1440 * day + asks.get(ask).told[1];
    }

    private int inAsk(int a) {
        return (int) people.stream().filter(one -> one.ask == a).count();
    }

    /** The plan as the dearest flow: one more called outweighs all turns, one turn all numbers, one number all asks. */
    int lay() {
        if (asks.isEmpty()) {
            return -1;
        }
        people.forEach(one -> one.ask = -1);
        BigInteger[][] worth = new BigInteger[people.size()][asks.size()];
        for (int p = 0; p < people.size(); p++) {
            for (int a = 0; a < asks.size(); a++) {
                worth[p][a] = can(p, a) ? worth(p, a) : null;
            }
        }
        while (callOneMore(worth)) {
            continue;
        }
        return count(5);
    }

    private BigInteger worth(int p, int a) {
        BigInteger one = BigInteger.ONE;
        int behind = PEOPLE_AT_MOST - 1 - p;
        BigInteger number = one.shiftLeft(3 * PEOPLE_AT_MOST + behind);
        BigInteger turn = one.shiftLeft(4 * PEOPLE_AT_MOST + 1);
        BigInteger call = turn.shiftLeft(14);
        return call.subtract(turn.multiply(BigInteger.valueOf(people.get(p).turns))).add(number)
                .subtract(BigInteger.valueOf(a).shiftLeft(3 * behind));
    }

    /** Along the dearest way from one who is not called to an ask that has room; false if there is none. */
    private boolean callOneMore(BigInteger[][] worth) {
        BigInteger[] gain = new BigInteger[asks.size()];
        int[] by = new int[asks.size()];
        BigInteger[] waiting = new BigInteger[people.size()];
        for (int p = 0; p < waiting.length; p++) {
            waiting[p] = people.get(p).ask < 0 ? BigInteger.ZERO : null;
        }
        for (boolean better = true; better;) {
            better = false;
            for (int p = 0; p < waiting.length; p++) {
                int now = people.get(p).ask;
                if (now >= 0 && gain[now] != null) {
                    waiting[p] = gain[now].subtract(worth[p][now]);
                }
                for (int a = 0; a < gain.length && waiting[p] != null; a++) {
                    BigInteger with = worth[p][a] == null || a == now ? null : waiting[p].add(worth[p][a]);
                    if (with != null && (gain[a] == null || with.compareTo(gain[a]) > 0)) {
                        gain[a] = with;
                        by[a] = p;
                        better = true;
                    }
                }
            }
        }
        int best = -1;
        for (int a = 0; a < gain.length; a++) {
            boolean hasRoom = gain[a] != null && inAsk(a) < asks.get(a).told[3];
            best = hasRoom && (best < 0 || gain[a].compareTo(gain[best]) > 0) ? a : best;
        }
        for (int a = best, left; a >= 0; a = left) {
            left = people.get(by[a]).ask;
            people.get(by[a]).ask = a;
        }
        return best >= 0;
    }

    int called(int p) {
        return isPerson(p) ? people.get(p).ask : -1;
    }

    int no(int p) {
        int gap = called(p);
        if (gap < 0) {
            return -1;
        }
        people.get(p).ask = -1;
        people.get(p).away = true;
        row = new ArrayList<>();
        for (int length = 1; length <= ASKS_AT_MOST && row.isEmpty(); length++) {
            lengthen(new ArrayList<>(), gap, length);
        }
        int to = gap;
        for (int one : row) {
            int left = people.get(one).ask;
            people.get(one).ask = to;
            to = left;
        }
        return row.size();
    }

    /** Tries all that may stand next, the lesser first, till one row has the length; a shortest one meets no ask twice. */
    private boolean lengthen(List<Integer> begun, int gap, int length) {
        for (int one = 0; one < people.size(); one++) {
            int from = people.get(one).ask;
            boolean last = begun.size() == length - 1;
            boolean met = begun.stream().anyMatch(other -> people.get(other).ask == from);
            if (from != gap && last == from < 0 && !met && can(one, gap)) {
                begun.add(one);
                if (last) {
                    row = new ArrayList<>(begun);
                    return true;
                }
                if (lengthen(begun, from, length)) {
                    return true;
                }
                begun.remove(begun.size() - 1);
            }
        }
        return false;
    }

    int moved(int i) {
        return in(i, 0, row.size() - 1) ? row.get(i) : -1;
    }

    int step(int dressers, int seed) {
        if (!in(dressers, 1, 5) || count(5) == 0 || day == 60) {
            return -1;
        }
        int[] coming = new int[people.size()];
        List<Integer> order = new ArrayList<>();
        for (int p = 0; p < coming.length; p++) {
            if (called(p) >= 0) {
                int next = (seed + 31 * p + 7 * day) * 1103515245 + 12345;
                coming[p] = asks.get(called(p)).told[1] + (next >>> 16) % 20;
                order.add(p);
            }
        }
        order.sort(Comparator.comparingInt(p -> coming[p]));
        int[] dressed = dress(order, coming, dressers);
        int last = -1;
        for (int p = 0; p < coming.length; p++) {
            last = called(p) < 0 ? last : Math.max(last, send(p, coming[p], dressed));
        }
        day++;
        asks = new ArrayList<>();
        people.forEach(one -> one.ask = -1);
        return last;
    }

    private int[] dress(List<Integer> order, int[] coming, int dressers) {
        int[] dressed = new int[people.size()];
        int[] freeAt = new int[dressers];
        for (int p : order) {
            Arrays.sort(freeAt);
            freeAt[0] = Math.max(freeAt[0], coming[p]) + people.get(p).told[4];
            dressed[p] = freeAt[0];
        }
        return dressed;
    }

    private int send(int p, int coming, int[] dressed) {
        Someone one = people.get(p);
        int begun = 0;
        for (int q = 0; q < dressed.length; q++) {
            begun = called(q) == one.ask ? Math.max(begun, dressed[q]) : begun;
        }
        int[] wanted = asks.get(one.ask).told;
        int sent = begun + wanted[2];
        one.turns++;
        one.free = 1440 * day + sent + 660;
        facts.add(new int[] {p, wanted[0]});
        int[] numbers = {wanted[0], coming, dressed[p], begun, sent, agreements.size() - 1, 0};
        numbers[6] = agreements.isEmpty() ? 0 : payFor(agreements.get(agreements.size() - 1), coming, sent);
        kept.add(new Kept(p, day, numbers));
        return sent;
    }

    private static int payFor(List<String> terms, int coming, int sent) {
        BigInteger sum = BigInteger.ZERO;
        for (int at = 0; at < terms.size();) {
            if (terms.get(at).equals("base")) {
                sum = sum.add(new BigInteger(terms.get(at + 1)));
                at += 3;
                continue;
            }
            int m = Integer.parseInt(terms.get(at + 1));
            int minutes = switch (terms.get(at)) {
                case "over" -> sent - coming - m;
                case "before" -> m - coming;
                default -> sent - m;
            };
            double quarters = minutes > 0 ? minutes / 15.0 : 0;
            long whole = (long) (terms.get(at + 4).equals("up") ? Math.ceil(quarters) : Math.floor(quarters));
            sum = sum.add(new BigInteger(terms.get(at + 3)).multiply(BigInteger.valueOf(whole)));
            at += 6;
        }
        return sum.intValue();
    }

    int record(int p, int ofDay, int what) {
        for (Kept one : kept) {
            if (one.person == p && one.day == ofDay && in(what, 0, 6)) {
                return one.numbers[what];
            }
        }
        return -1;
    }

    int tell(int p, int scene) {
        if (!isPerson(p) || !in(scene, 0, 19) || told == 200) {
            return -1;
        }
        told++;
        facts.add(new int[] {p, scene});
        return facts.size() - 1;
    }

    private int countFacts(int p, int scene, int n) {
        return (int) facts.subList(0, n).stream().filter(fact -> fact[0] == p && fact[1] == scene).count();
    }

    /** -7 where the document wants an exception. */
    int seen(int p, int scene, int n) {
        return isPerson(p) && in(scene, 0, 19) && in(n, 0, facts.size()) ? countFacts(p, scene, n) : -7;
    }

    int retake(int scene, int minute) {
        if (!in(scene, 0, 19) || !in(minute, 0, 1439)) {
            return -1;
        }
        lacking = new ArrayList<>();
        for (int p = 0; p < people.size(); p++) {
            Someone one = people.get(p);
            if (countFacts(p, scene, facts.size()) > 0 && (one.away || one.free > 1440 * day + minute)) {
                lacking.add(p);
            }
        }
        return lacking.size();
    }

    int lacks(int i) {
        return in(i, 0, lacking.size() - 1) ? lacking.get(i) : -1;
    }

    int buses(int home, int seats) {
        if (!in(home, 0, 3) || !in(seats, 1, 100)) {
            return -1;
        }
        long riders = people.stream().filter(one -> one.ask >= 0 && one.told[3] == home).count();
        return (int) Math.ceil(riders / (double) seats);
    }

    int ask(int a, int what) {
        if (!isAsk(a) || !in(what, 0, 4)) {
            return -1;
        }
        return what == 4 ? inAsk(a) : asks.get(a).told[what];
    }

    int about(int p, int what) {
        if (!isPerson(p) || !in(what, 0, 7)) {
            return -1;
        }
        Someone one = people.get(p);
        return what < 5 ? one.told[what] : new int[] {one.away ? 1 : 0, one.turns, one.free}[what - 5];
    }

    long pay(int p, int from, int to) {
        return kept.stream().filter(one -> one.person == p && in(one.day, from, to)).mapToLong(one -> one.numbers[6]).sum();
    }

    int count(int what) {
        switch (what) {
            case 0: return people.size();
            case 1: return asks.size();
            case 2: return agreements.size();
            case 3: return facts.size();
            case 4: return day;
            case 5: return (int) people.stream().filter(one -> one.ask >= 0).count();
            case 6: return tape.length();
            case 7: return kept.size();
            default: return -1;
        }
    }
}
