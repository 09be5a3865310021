import java.util.NoSuchElementException;

/** What the tests share: answers that are due, and texts put on the tape. */
final class Check {
    private static int asked = 0;
    private static int wrong = 0;

    private Check() {
    }

    static void due(String what, long got, long want) {
        asked++;
        if (got != want) {
            wrong++;
            System.out.println(what + " answered " + got + ", due is " + want);
        }
    }

    static int asked() {
        return asked;
    }

    static int wrong() {
        return wrong;
    }

    static void due(String what, boolean got, boolean want) {
        due(what, got ? 1 : 0, want ? 1 : 0);
    }

    /** Puts a text behind what the tape has. */
    static void feed(ExtrasOffice x, String text) {
        int ahead = x.count(6);
        for (int at = 0; at < text.length(); at += 20) {
            int[] numbers = new int[5];
            for (int i = 0; i < 20; i++) {
                int sign = at + i < text.length() ? text.charAt(at + i) : 0;
                numbers[i / 4] = numbers[i / 4] << 8 | sign;
            }
            x.feed(numbers[0], numbers[1], numbers[2], numbers[3], numbers[4]);
        }
        due("end() behind \"" + text + "\"", x.end(ahead + text.length()), ahead + text.length());
    }

    static int asks(ExtrasOffice x, String text) {
        feed(x, text);
        return x.asks();
    }

    static int agree(ExtrasOffice x, String text) {
        feed(x, text);
        return x.agree();
    }

    static void asksFault(String text, int kind, int place) {
        ExtrasOffice x = new ExtrasOffice();
        due("asks() of \"" + text + "\"", asks(x, text), -2 - kind);
        due("place() of \"" + text + "\"", x.place(), place);
        due("the tape behind \"" + text + "\"", x.count(6), 0);
    }

    static void agreeFault(String text, int kind, int place) {
        ExtrasOffice x = new ExtrasOffice();
        due("agree() of \"" + text + "\"", agree(x, text), -2 - kind);
        due("place() of \"" + text + "\"", x.place(), place);
        due("the tape behind \"" + text + "\"", x.count(6), 0);
    }

    /** Puts a text behind what the tape has, and blanks to the next twenty bytes: as few calls as it can be. */
    static void feedWithBlanks(ExtrasOffice x, String text) {
        for (int at = 0; at < text.length(); at += 20) {
            int[] numbers = new int[5];
            for (int i = 0; i < 20; i++) {
                int sign = at + i < text.length() ? text.charAt(at + i) : ' ';
                numbers[i / 4] = numbers[i / 4] << 8 | sign;
            }
            x.feed(numbers[0], numbers[1], numbers[2], numbers[3], numbers[4]);
        }
    }

    /** What seen() answers; -7 if it throws what is due of it for wrong numbers. */
    static int seen(ExtrasOffice x, int p, int scene, int n) {
        try {
            return x.seen(p, scene, n);
        } catch (NoSuchElementException e) {
            return -7;
        }
    }

    static void finish(String test) {
        System.out.println(test + ": " + asked + " answers, " + wrong + " wrong");
        if (wrong > 0) {
            System.exit(1);
        }
    }
}
