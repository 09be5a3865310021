import java.util.ArrayList;
import java.util.NoSuchElementException;

/** An extras office: who may be in which scene, who is called, dressed, sent and paid, and who was seen where. */
public final class ExtrasOffice {
    public static final int NONE = -1;

    private static final int MOST_PEOPLE = 40;
    private static final int HOMES = 4;
    private static final int SCENES = 20;
    private static final int MOST_SEATS = 100;
    private static final int MOST_BYTES = 1000;
    private static final int FED_NUMBERS = 5;
    private static final int MOST_ASKS = 6;
    private static final int MOST_WITHIN = 8;
    private static final int MOST_TERMS = 8;
    private static final int MOST_AGREEMENTS = 30;
    private static final int MOST_TOLD = 200;
    private static final int MOST_DAYS = 60;
    private static final int MOST_DRESSERS = 5;
    private static final int DAY_MINUTES = 1440;
    private static final int REST_MINUTES = 660;
    private static final int QUARTER_MINUTES = 15;
    private static final int FULL = -2;

    private final Plan plan = new Plan();
    private final ArrayList<Person> people = plan.people;
    private final AskReader askReader = new AskReader();
    private final Tokens tokens = askReader.tokens;
    private final Row tape = tokens.tape;
    private final ArrayList<Agreement> agreements = new ArrayList<>();
    private final Facts facts = new Facts();
    private final Dressing dressing = new Dressing();
    private final ArrayList<Turn> records = new ArrayList<>();
    private final Row lacking = new Row(MOST_PEOPLE);
    private int day;

    public ExtrasOffice() {
    }

    public int person(int age, int tall, int looks, int home, int slow) {
        boolean asTold = within(age, 0, 99) && within(tall, 50, 230) && within(looks, 0, 65535)
                && within(home, 0, HOMES - 1) && within(slow, 1, 30);
        if (!asTold || people.size() >= MOST_PEOPLE) {
            return NONE;
        }
        int number = people.size();
        people.add(new Person(number, age, tall, looks, home, slow));
        return number;
    }

    public boolean away(int p, boolean is) {
        Person one = find(p);
        if (one == null || one.inAsk != null) {
            return false;
        }
        one.isAway = is;
        return true;
    }

    public int feed(int a, int b, int c, int d, int e) {
        if (tape.size + 4 * FED_NUMBERS > MOST_BYTES) {
            return NONE;
        }
        addBytes(a);
        addBytes(b);
        addBytes(c);
        addBytes(d);
        addBytes(e);
        return tape.size;
    }

    public int end(int n) {
        if (!within(n, 0, tape.size)) {
            return NONE;
        }
        tape.size = n;
        return n;
    }

    public int asks() {
        ArrayList<Ask> read = askReader.read();
        tape.size = 0;
        if (read == null) {
            return -2 - tokens.fault;
        }
        plan.startWith(read);
        return read.size();
    }

    public int agree() {
        if (agreements.size() >= MOST_AGREEMENTS) {
            return FULL;
        }
        Agreement draft = new Agreement(agreements.size());
        boolean stands = draft.readFrom(tokens);
        tape.size = 0;
        if (!stands) {
            return -2 - tokens.fault;
        }
        agreements.add(draft);
        return draft.number;
    }

    public int place() {
        return tokens.faultPlace;
    }

    public int fits(int p, int ask, int what) {
        Person one = find(p);
        Ask wanted = plan.find(ask);
        if (one == null || wanted == null || !within(what, 0, 1)) {
            return NONE;
        }
        boolean holds = what == 0 ? wanted.suits(one) : wanted.isOpenTo(one, day);
        return holds ? 1 : 0;
    }

    public int lay() {
        if (plan.asks.isEmpty()) {
            return NONE;
        }
        plan.layFor(day);
        return plan.size();
    }

    public int called(int p) {
        Person one = find(p);
        return one == null || one.inAsk == null ? NONE : one.inAsk.number;
    }

    public int no(int p) {
        Person one = find(p);
        if (one == null || one.inAsk == null) {
            return NONE;
        }
        Ask left = one.inAsk;
        one.moveTo(null);
        one.isAway = true;
        plan.mend(left, day);
        return plan.moves.size;
    }

    public int moved(int i) {
        return plan.moves.at(i);
    }

    public int step(int dressers, int seed) {
        if (!within(dressers, 1, MOST_DRESSERS) || plan.size() == 0 || day >= MOST_DAYS) {
            return NONE;
        }
        dressing.comeAll(people, seed, day);
        dressing.dressAll(dressers);
        int last = sendAll();
        plan.startWith(new ArrayList<Ask>());
        day++;
        return last;
    }

    public int record(int p, int day, int what) {
        Turn turn = findRecord(p, day);
        return turn == null ? NONE : turn.answer(what);
    }

    public int tell(int p, int scene) {
        Person one = find(p);
        if (one == null || !isScene(scene) || facts.told >= MOST_TOLD) {
            return NONE;
        }
        facts.told++;
        return facts.add(one, scene);
    }

    public int seen(int p, int scene, int n) throws NoSuchElementException {
        if (find(p) == null || !isScene(scene) || !within(n, 0, facts.size())) {
            throw new NoSuchElementException("no such person, scene or number of facts");
        }
        return facts.howOften(p, scene, n);
    }

    public int retake(int scene, int minute) {
        if (!isScene(scene) || !within(minute, 0, DAY_MINUTES - 1)) {
            return NONE;
        }
        lacking.size = 0;
        for (int p = 0; p < people.size(); p++) {
            Person one = people.get(p);
            boolean ready = !one.isAway && one.freeFrom <= DAY_MINUTES * day + minute;
            if (one.wasIn(scene) && !ready) {
                lacking.add(p);
            }
        }
        return lacking.size;
    }

    public int lacks(int i) {
        return lacking.at(i);
    }

    public int buses(int home, int seats) {
        if (!within(home, 0, HOMES - 1) || !within(seats, 1, MOST_SEATS)) {
            return NONE;
        }
        int riders = 0;
        for (int p = 0; p < people.size(); p++) {
            Person one = people.get(p);
            if (one.inAsk != null && one.home == home) {
                riders++;
            }
        }
        return (riders + seats - 1) / seats;
    }

    public int ask(int a, int what) {
        Ask wanted = plan.find(a);
        return wanted == null ? NONE : wanted.answer(what);
    }

    public int about(int p, int what) {
        Person one = find(p);
        return one == null ? NONE : one.answer(what);
    }

    public long pay(int p, int from, int to) {
        long sum = 0;
        for (int r = 0; r < records.size(); r++) {
            Turn turn = records.get(r);
            if (turn.who.number == p && within(turn.day, from, to)) {
                sum += turn.earned();
            }
        }
        return sum;
    }

    public int count(int what) {
        switch (what) {
            case 0: return people.size();
            case 1: return plan.asks.size();
            case 2: return agreements.size();
            case 3: return facts.size();
            case 4: return day;
            case 5: return plan.size();
            case 6: return tape.size;
            case 7: return records.size();
            default: return NONE;
        }
    }

    private static boolean within(int number, int low, int high) {
        return number >= low && number <= high;
    }

    private static boolean isScene(int number) {
        return within(number, 0, SCENES - 1);
    }

    /** The one with that number; null without such a one. */
    private Person find(int p) {
        return p >= 0 && p < people.size() ? people.get(p) : null;
    }

    private Turn findRecord(int p, int ofDay) {
        for (int r = 0; r < records.size(); r++) {
            Turn turn = records.get(r);
            if (turn.who.number == p && turn.day == ofDay) {
                return turn;
            }
        }
        return null;
    }

    private void addBytes(int number) {
        for (int shift = 24; shift >= 0; shift -= 8) {
            tape.add(number >>> shift & 255);
        }
    }

    /** Keeps what the day leaves behind of those who were dressed; answers when the last one was sent. */
    private int sendAll() {
        Agreement latest = agreements.isEmpty() ? null : agreements.get(agreements.size() - 1);
        int last = NONE;
        for (int t = 0; t < dressing.byNumber.size(); t++) {
            Turn turn = dressing.byNumber.get(t);
            turn.send(latest);
            facts.add(turn.who, turn.scene);
            records.add(turn);
            last = Math.max(last, turn.sent);
        }
        return last;
    }

    /** A row of numbers with room for so many and no more; what lies behind its size does not count. */
    private static final class Row {
        final int[] numbers;
        int size;

        Row(int room) {
            numbers = new int[room >= 0 ? room : 0];
        }

        void add(int number) {
            if (size >= 0 && size < numbers.length) {
                numbers[size] = number;
                size++;
            }
        }

        int at(int i) {
            return i >= 0 && i < size && i < numbers.length ? numbers[i] : NONE;
        }
    }

    private static final class Person {
        final int number;
        final int age;
        final int tall;
        final int looks;
        final int home;
        final int slow;
        boolean isAway;
        int turns;
        int freeFrom;
        /** A bit for each scene. */
        int scenes;
        /** A bit for each ask that this one can be in, as it was when the plan last looked. */
        int open;
        Ask inAsk;

        Person(int number, int age, int tall, int looks, int home, int slow) {
            this.number = number;
            this.age = age;
            this.tall = tall;
            this.looks = looks;
            this.home = home;
            this.slow = slow;
        }

        boolean wasIn(int scene) {
            return (scenes >> scene & 1) == 1;
        }

        boolean canBeIn(Ask ask) {
            return (open >> ask.number & 1) == 1;
        }

        /** Leaves the ask this one is called in for another one, or for none (null). */
        void moveTo(Ask ask) {
            if (inAsk != null) {
                inAsk.held--;
            }
            inAsk = ask;
            if (ask != null) {
                ask.held++;
            }
        }

        int answer(int what) {
            switch (what) {
                case 0: return age;
                case 1: return tall;
                case 2: return looks;
                case 3: return home;
                case 4: return slow;
                case 5: return isAway ? 1 : 0;
                case 6: return turns;
                case 7: return freeFrom;
                default: return NONE;
            }
        }
    }

    /** An ask of the day. Its E stands in the order in which a stack of truths takes it: each step behind its parts. */
    private static final class Ask {
        static final int ANYONE = 0;
        static final int LOOK = 1;
        static final int HOME = 2;
        static final int SEEN = 3;
        static final int YOUNGER = 4;
        static final int OLDER = 5;
        static final int SMALLER = 6;
        static final int TALLER = 7;
        static final int NOT = 8;
        static final int AND = 9;
        static final int OR = 10;
        /** A step is its kind times this, and its number, which has at most five digits. */
        static final int STEP = 100000;
        /** What leads from a kind with less to the one with more. */
        static final int TO_MORE = 1;

        final int number;
        int scene;
        int callAt;
        int minutes;
        int wants;
        int[] steps = new int[0];
        int held;
        int begun;
        /** How many people the shortest row has that fills a place here; NONE while no row is known. */
        int rowLength;

        Ask(int number) {
            this.number = number;
        }

        /** The highest number that may stand behind a word for a mark. */
        static int highest(int kind) {
            switch (kind) {
                case LOOK: return 15;
                case HOME: return HOMES - 1;
                case SEEN: return SCENES - 1;
                default: return Tokens.MOST_NUMBER;
            }
        }

        void takeSteps(Row read) {
            steps = new int[Math.max(read.size, 0)];
            for (int i = 0; i < steps.length; i++) {
                steps[i] = read.at(i);
            }
        }

        boolean isOpenTo(Person one, int day) {
            return !one.isAway && one.freeFrom <= DAY_MINUTES * day + callAt && suits(one);
        }

        /** The truths lie in the bits of one long: nine levels of E leave at most two waiting each, and one on top. */
        boolean suits(Person one) {
            long truths = 0;
            for (int i = 0; i < steps.length; i++) {
                int kind = steps[i] / STEP;
                long top = truths & 1;
                if (kind == NOT) {
                    truths ^= 1;
                } else if (kind == AND) {
                    truths = truths >>> 1 & (top | ~1L);
                } else if (kind == OR) {
                    truths = truths >>> 1 | top;
                } else {
                    truths = truths << 1 | (holds(kind, steps[i] % STEP, one) ? 1 : 0);
                }
            }
            return (truths & 1) == 1;
        }

        private static boolean holds(int kind, int bound, Person one) {
            switch (kind) {
                case LOOK: return (one.looks >> bound & 1) == 1;
                case HOME: return one.home == bound;
                case SEEN: return one.wasIn(bound);
                case YOUNGER: return one.age < bound;
                case OLDER: return one.age > bound;
                case SMALLER: return one.tall < bound;
                case TALLER: return one.tall > bound;
                default: return true;
            }
        }

        int answer(int what) {
            switch (what) {
                case 0: return scene;
                case 1: return callAt;
                case 2: return minutes;
                case 3: return wants;
                case 4: return held;
                default: return NONE;
            }
        }
    }

    /** Reads its tape token by token, and keeps the fault at which a reader stopped. */
    private static final class Tokens {
        static final int UNFIT = 1;
        static final int BEYOND = 2;
        static final int MOST_NUMBER = 99999;

        private static final int MOST_DIGITS = 5;
        private static final int END = 0;
        private static final int BLANK = 1;
        private static final int WORD = 2;
        private static final int NUMBER = 3;
        private static final int SIGN = 4;

        final Row tape = new Row(MOST_BYTES);
        int fault;
        int faultPlace = NONE;
        private int kind;
        private int start;
        private int next;
        private int value;

        void begin() {
            fault = 0;
            faultPlace = NONE;
            next = 0;
            advance();
        }

        void advance() {
            start = next;
            while (start < tape.size && kindOf(tape.at(start)) == BLANK) {
                start++;
            }
            kind = kindOf(tape.at(start));
            value = 0;
            next = kind == SIGN ? start + 1 : start;
            while (next < tape.size && kind != SIGN && kindOf(tape.at(next)) == kind) {
                value = value * 10 + tape.at(next) - '0';
                next++;
            }
        }

        /** What a byte belongs to; behind the last byte stands NONE. */
        private static int kindOf(int sign) {
            if (sign == NONE) {
                return END;
            }
            if (sign == 32 || sign == 10) {
                return BLANK;
            }
            if (sign >= 'a' && sign <= 'z') {
                return WORD;
            }
            return sign >= '0' && sign <= '9' ? NUMBER : SIGN;
        }

        boolean atEnd() {
            return kind == END;
        }

        boolean isWord(String word) {
            if (kind != WORD || next - start != word.length()) {
                return false;
            }
            for (int i = 0; i < word.length(); i++) {
                if (tape.at(start + i) != word.charAt(i)) {
                    return false;
                }
            }
            return true;
        }

        boolean isSign(char sign) {
            return kind == SIGN && tape.at(start) == sign;
        }

        boolean passWord(String word) {
            if (!isWord(word)) {
                return fail(UNFIT);
            }
            advance();
            return true;
        }

        boolean passSign(char sign) {
            if (!isSign(sign)) {
                return fail(UNFIT);
            }
            advance();
            return true;
        }

        /** The number that stands here; NONE with a fault. */
        int passNumber(int low, int high) {
            if (kind != NUMBER || next - start > MOST_DIGITS) {
                fail(UNFIT);
                return NONE;
            }
            if (!within(value, low, high)) {
                fail(BEYOND);
                return NONE;
            }
            int passed = value;
            advance();
            return passed;
        }

        /** The number behind a word; NONE with a fault. */
        int passNumberAfter(String word, int low, int high) {
            return passWord(word) ? passNumber(low, high) : NONE;
        }

        boolean fail(int faultKind) {
            fault = faultKind;
            faultPlace = start;
            return false;
        }
    }

    /** Reads asks; each of its methods that read a part answers false when it has met a fault. */
    private static final class AskReader {
        final Tokens tokens = new Tokens();
        private final Row steps = new Row(MOST_BYTES);

        /** Null with a fault. */
        ArrayList<Ask> read() {
            ArrayList<Ask> asks = new ArrayList<>();
            tokens.begin();
            for (int n = 0; n <= MOST_ASKS && !tokens.atEnd(); n++) {
                if (n == MOST_ASKS && tokens.isWord("scene")) {
                    tokens.fail(Tokens.BEYOND);
                    return null;
                }
                Ask ask = new Ask(n);
                steps.size = 0;
                if (!readHead(ask) || !readAny(0) || !tokens.passSign(';')) {
                    return null;
                }
                ask.takeSteps(steps);
                asks.add(ask);
            }
            return asks;
        }

        private boolean readHead(Ask ask) {
            ask.scene = tokens.passNumberAfter("scene", 0, SCENES - 1);
            if (ask.scene == NONE) {
                return false;
            }
            ask.callAt = tokens.passNumberAfter("at", 0, DAY_MINUTES - 1);
            if (ask.callAt == NONE) {
                return false;
            }
            ask.minutes = tokens.passNumberAfter("for", 1, 600);
            if (ask.minutes == NONE) {
                return false;
            }
            ask.wants = tokens.passNumberAfter("want", 1, 8);
            return ask.wants != NONE && tokens.passSign(':');
        }

        /** E, which lies within so many of not and (. */
        private boolean readAny(int depth) {
            boolean orWaits = false;
            boolean andWaits = false;
            for (int n = 0; n < MOST_BYTES; n++) {
                if (!readOne(depth)) {
                    return false;
                }
                if (andWaits) {
                    steps.add(Ask.AND * Ask.STEP);
                }
                andWaits = tokens.isWord("and");
                if (!andWaits && orWaits) {
                    steps.add(Ask.OR * Ask.STEP);
                }
                orWaits = andWaits ? orWaits : tokens.isWord("or");
                if (!andWaits && !orWaits) {
                    return true;
                }
                tokens.advance();
            }
            return tokens.fail(Tokens.UNFIT);
        }

        /** F. */
        private boolean readOne(int depth) {
            boolean isNot = tokens.isWord("not");
            if (!isNot && !tokens.isSign('(')) {
                return readMark();
            }
            if (depth >= MOST_WITHIN) {
                return tokens.fail(Tokens.BEYOND);
            }
            tokens.advance();
            if (!isNot) {
                return readAny(depth + 1) && tokens.passSign(')');
            }
            if (!readOne(depth + 1)) {
                return false;
            }
            steps.add(Ask.NOT * Ask.STEP);
            return true;
        }

        /** An F that looks at one mark. */
        private boolean readMark() {
            int kind = markHere();
            if (kind == NONE) {
                return tokens.fail(Tokens.UNFIT);
            }
            tokens.advance();
            if (kind == Ask.YOUNGER || kind == Ask.SMALLER) {
                boolean isLess = tokens.isSign('<');
                if (!isLess && !tokens.isSign('>')) {
                    return tokens.fail(Tokens.UNFIT);
                }
                tokens.advance();
                kind = isLess ? kind : kind + Ask.TO_MORE;
            }
            int number = kind == Ask.ANYONE ? 0 : tokens.passNumber(0, Ask.highest(kind));
            if (number == NONE) {
                return false;
            }
            steps.add(kind * Ask.STEP + number);
            return true;
        }

        /** NONE if no word for a mark stands here; age and tall count as the kinds with less. */
        private int markHere() {
            if (tokens.isWord("anyone")) {
                return Ask.ANYONE;
            }
            if (tokens.isWord("look")) {
                return Ask.LOOK;
            }
            if (tokens.isWord("home")) {
                return Ask.HOME;
            }
            if (tokens.isWord("seen")) {
                return Ask.SEEN;
            }
            if (tokens.isWord("age")) {
                return Ask.YOUNGER;
            }
            return tokens.isWord("tall") ? Ask.SMALLER : NONE;
        }
    }

    /** The people, the day's asks, and who is called in them. */
    private static final class Plan {
        final ArrayList<Person> people = new ArrayList<>();
        ArrayList<Ask> asks = new ArrayList<>();
        final Row moves = new Row(MOST_ASKS);
        /** A bit for each ask from which the search for room went on already. */
        private int tried;

        Ask find(int a) {
            return a >= 0 && a < asks.size() ? asks.get(a) : null;
        }

        int size() {
            int size = 0;
            for (int a = 0; a < asks.size(); a++) {
                size += asks.get(a).held;
            }
            return size;
        }

        void startWith(ArrayList<Ask> others) {
            dismissAll();
            asks = others;
        }

        private void dismissAll() {
            for (int p = 0; p < people.size(); p++) {
                people.get(p).moveTo(null);
            }
        }

        private void lookWhoIsOpen(int day) {
            for (int p = 0; p < people.size(); p++) {
                Person one = people.get(p);
                one.open = 0;
                for (int a = 0; a < asks.size(); a++) {
                    if (asks.get(a).isOpenTo(one, day)) {
                        one.open |= 1 << a;
                    }
                }
            }
        }

        /**
         * Whoever finds a place beside all those called ahead of them is in the plan: sets of people who have places
         * together are a matroid, so the order of fewest turns, then of numbers, gives the best set.
         */
        void layFor(int day) {
            dismissAll();
            lookWhoIsOpen(day);
            for (int turns = 0; turns <= MOST_DAYS; turns++) {
                for (int p = 0; p < people.size(); p++) {
                    if (people.get(p).turns == turns) {
                        seat(people.get(p), NONE);
                    }
                }
            }
            seatAllInLeast();
        }

        /** Person by person into the least ask that leaves places for all after them, those ahead staying put. */
        private void seatAllInLeast() {
            for (int p = 0; p < people.size(); p++) {
                Person one = people.get(p);
                if (one.inAsk != null) {
                    one.moveTo(null);
                    seat(one, p);
                }
            }
        }

        /** Into the least ask in which room is or can be made by moving people numbered above a bound; or into none. */
        private void seat(Person one, int above) {
            tried = 0;
            seatElsewhere(one, above, 0);
        }

        private boolean seatElsewhere(Person one, int above, int depth) {
            for (int a = 0; a < asks.size(); a++) {
                Ask ask = asks.get(a);
                if (one.canBeIn(ask) && makeRoom(ask, above, depth + 1)) {
                    one.moveTo(ask);
                    return true;
                }
            }
            return false;
        }

        private boolean makeRoom(Ask ask, int above, int depth) {
            if (ask.held < ask.wants) {
                return true;
            }
            // each level marks another ask as tried, so none lies deeper than there are asks
            if ((tried >> ask.number & 1) == 1 || depth > MOST_ASKS) {
                return false;
            }
            tried |= 1 << ask.number;
            for (int p = above < 0 ? 0 : above + 1; p < people.size(); p++) {
                Person one = people.get(p);
                if (one.inAsk == ask && seatElsewhere(one, above, depth)) {
                    return true;
                }
            }
            return false;
        }

        /** Fills a place in an ask by the shortest row, if there is one, and keeps the row. */
        void mend(Ask lacking, int day) {
            lookWhoIsOpen(day);
            measureRows();
            moves.size = 0;
            Ask gap = lacking;
            for (int length = lacking.rowLength; length > 0 && gap != null; length--) {
                Person one = firstOfRow(gap, length);
                if (one == null) {
                    return;
                }
                Ask left = one.inAsk;
                // whoever moved sits in an ask with a longer row now, and so cannot be met again
                one.moveTo(gap);
                moves.add(one.number);
                gap = left;
            }
        }

        private void measureRows() {
            for (int a = 0; a < asks.size(); a++) {
                asks.get(a).rowLength = NONE;
            }
            for (int length = 1; length <= asks.size(); length++) {
                for (int a = 0; a < asks.size(); a++) {
                    Ask ask = asks.get(a);
                    if (ask.rowLength == NONE && firstOfRow(ask, length) != null) {
                        ask.rowLength = length;
                    }
                }
            }
        }

        /** The least person with whom a row of that length that fills a place in the ask begins; null without. */
        private Person firstOfRow(Ask ask, int length) {
            for (int p = 0; p < people.size(); p++) {
                Person one = people.get(p);
                boolean leadsOn = one.inAsk == null ? length == 1 : one.inAsk.rowLength == length - 1;
                if (leadsOn && one.inAsk != ask && one.canBeIn(ask)) {
                    return one;
                }
            }
            return null;
        }
    }

    /** Who comes when on a day, and when each one is dressed. */
    private static final class Dressing {
        final ArrayList<Turn> byNumber = new ArrayList<>();
        private final ArrayList<Turn> byComing = new ArrayList<>();
        private final int[] dresserFree = new int[MOST_DRESSERS];

        void comeAll(ArrayList<Person> people, int seed, int day) {
            byNumber.clear();
            byComing.clear();
            for (int p = 0; p < people.size(); p++) {
                Person one = people.get(p);
                if (one.inAsk != null) {
                    int delay = (following(seed + 31 * p + 7 * day) >>> 16) % 20;
                    Turn turn = new Turn(one, day, one.inAsk);
                    turn.coming = one.inAsk.callAt + delay;
                    byNumber.add(turn);
                    queue(turn);
                }
            }
        }

        private static int following(int x) {
            return x * 1103515245 + 12345;
        }

        /** Behind all who came no later: people are queued by their numbers. */
        private void queue(Turn turn) {
            int place = 0;
            while (place < byComing.size() && byComing.get(place).coming <= turn.coming) {
                place++;
            }
            byComing.add(place, turn);
        }

        void dressAll(int dressers) {
            for (int d = 0; d < dresserFree.length; d++) {
                dresserFree[d] = 0;
            }
            for (int t = 0; t < byComing.size(); t++) {
                Turn turn = byComing.get(t);
                int dresser = firstFree(dressers);
                if (dresser >= 0 && dresser < dresserFree.length) {
                    turn.dressed = Math.max(dresserFree[dresser], turn.coming) + turn.who.slow;
                    dresserFree[dresser] = turn.dressed;
                    turn.ask.begun = Math.max(turn.ask.begun, turn.dressed);
                }
            }
        }

        private int firstFree(int dressers) {
            int first = 0;
            for (int d = 1; d < dressers && d < dresserFree.length; d++) {
                if (dresserFree[d] < dresserFree[first]) {
                    first = d;
                }
            }
            return first;
        }
    }

    /** One day of one called person: their record, once they are sent. */
    private static final class Turn {
        final Person who;
        final int day;
        final Ask ask;
        final int scene;
        int coming;
        int dressed;
        int begun;
        int sent;
        Agreement agreement;

        Turn(Person who, int day, Ask ask) {
            this.who = who;
            this.day = day;
            this.ask = ask;
            this.scene = ask.scene;
        }

        void send(Agreement latest) {
            begun = ask.begun;
            sent = begun + ask.minutes;
            agreement = latest;
            who.turns++;
            who.freeFrom = DAY_MINUTES * day + sent + REST_MINUTES;
        }

        int earned() {
            return agreement == null ? 0 : agreement.worth(coming, sent);
        }

        int answer(int what) {
            switch (what) {
                case 0: return scene;
                case 1: return coming;
                case 2: return dressed;
                case 3: return begun;
                case 4: return sent;
                case 5: return agreement == null ? NONE : agreement.number;
                case 6: return earned();
                default: return NONE;
            }
        }
    }

    private static final class Agreement {
        final int number;
        private final ArrayList<Term> terms = new ArrayList<>();

        Agreement(int number) {
            this.number = number;
        }

        /** False with a fault. */
        boolean readFrom(Tokens tokens) {
            tokens.begin();
            for (int n = 0; n <= MOST_TERMS && !tokens.atEnd(); n++) {
                Term term = new Term(Term.kindAt(tokens));
                if (term.kind == NONE) {
                    return tokens.fail(Tokens.UNFIT);
                }
                if (n == MOST_TERMS) {
                    return tokens.fail(Tokens.BEYOND);
                }
                tokens.advance();
                if (!term.readNumbers(tokens) || !tokens.passSign(';')) {
                    return false;
                }
                terms.add(term);
            }
            return true;
        }

        int worth(int coming, int sent) {
            int sum = 0;
            for (int t = 0; t < terms.size(); t++) {
                sum += terms.get(t).worth(coming, sent);
            }
            return sum;
        }
    }

    private static final class Term {
        static final int BASE = 0;
        static final int OVER = 1;
        static final int BEFORE = 2;
        static final int AFTER = 3;

        final int kind;
        int minute;
        int number;
        boolean isUp;

        Term(int kind) {
            this.kind = kind;
        }

        /** The kind that the word here tells; NONE if none does. */
        static int kindAt(Tokens tokens) {
            if (tokens.isWord("base")) {
                return BASE;
            }
            if (tokens.isWord("over")) {
                return OVER;
            }
            if (tokens.isWord("before")) {
                return BEFORE;
            }
            return tokens.isWord("after") ? AFTER : NONE;
        }

        /** False with a fault. */
        boolean readNumbers(Tokens tokens) {
            if (kind == BASE) {
                number = tokens.passNumber(0, Tokens.MOST_NUMBER);
                return number != NONE;
            }
            minute = tokens.passNumber(0, Tokens.MOST_NUMBER);
            if (minute == NONE) {
                return false;
            }
            number = tokens.passNumberAfter("each", 0, Tokens.MOST_NUMBER);
            if (number == NONE) {
                return false;
            }
            isUp = tokens.isWord("up");
            return tokens.passWord(isUp ? "up" : "down");
        }

        int worth(int coming, int sent) {
            switch (kind) {
                case BASE: return number;
                case OVER: return quarters(sent - coming - minute) * number;
                case BEFORE: return quarters(minute - coming) * number;
                case AFTER: return quarters(sent - minute) * number;
                default: return 0;
            }
        }

        private int quarters(int minutes) {
            if (minutes <= 0) {
                return 0;
            }
            return (isUp ? minutes + QUARTER_MINUTES - 1 : minutes) / QUARTER_MINUTES;
        }
    }

    /** Who was seen in which scene, in the order in which it was told. */
    private static final class Facts {
        private final Row who = new Row(MOST_TOLD + MOST_PEOPLE * MOST_DAYS);
        private final Row where = new Row(MOST_TOLD + MOST_PEOPLE * MOST_DAYS);
        int told;

        int size() {
            return who.size;
        }

        /** The new fact's number. */
        int add(Person one, int scene) {
            who.add(one.number);
            where.add(scene);
            one.scenes |= 1 << scene;
            return who.size - 1;
        }

        int howOften(int p, int scene, int first) {
            int often = 0;
            for (int f = 0; f < first && f < who.size; f++) {
                if (who.at(f) == p && where.at(f) == scene) {
                    often++;
                }
            }
            return often;
        }
    }
}
