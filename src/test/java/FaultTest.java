import java.util.ArrayList;
import java.util.List;
import java.util.Random;

/**
 * Promises 6, 7 and 8 against another reader: tokens cut by hand are pushed through tables of states, and texts are
 * broken at random.
 */
final class FaultTest {
    /** A row of what may come, one ask or term each; # with a bound stands for a number. */
    private static final String[] HEAD = {"scene", "#0-19", "at", "#0-1439", "for", "#1-600", "want", "#1-8", ":"};
    private static final String[] WORDS = {"scene", "at", "for", "want", "or", "and", "not", "anyone", "look", "home", "seen",
        "age", "tall", "base", "over", "each", "before", "after", "up", "down", "x", "scen", ":", ";", "(", ")", "<", ">",
        "=", "\t", "0", "1", "3", "4", "8", "9", "15", "16", "19", "20", "600", "601", "1439", "1440", "99999", "100000"};

    private int fault = 0;
    private int place = -1;
    private final List<String> tokens = new ArrayList<>();
    private final List<Integer> starts = new ArrayList<>();

    public static void main(String[] args) {
        Random random = new Random(11);
        for (int n = 0; n < 6000; n++) {
            String text = broken(random, asks(random));
            int[] fault = ofAsks(text);
            ExtrasOffice x = new ExtrasOffice();
            int got = Check.asks(x, text);
            Check.due("asks of \"" + text + "\"", Math.min(got, 0), fault[0] == 0 ? 0 : -2 - fault[0]);
            Check.due("place of \"" + text + "\"", x.place(), fault[1]);
        }
        for (int n = 0; n < 3000; n++) {
            String text = broken(random, terms(random));
            int[] fault = ofAgreement(text);
            ExtrasOffice x = new ExtrasOffice();
            int got = Check.agree(x, text);
            Check.due("agree of \"" + text + "\"", Math.min(got, 0), fault[0] == 0 ? 0 : -2 - fault[0]);
            Check.due("place of \"" + text + "\"", x.place(), fault[1]);
        }
        Check.finish("FaultTest");
    }

    /** Kind (0 without) and place of the FAULT of a text as ASKS. */
    static int[] ofAsks(String text) {
        FaultTest reader = new FaultTest(text);
        reader.readAsks();
        return new int[] {reader.fault, reader.place};
    }

    /** Likewise as an AGREEMENT. */
    static int[] ofAgreement(String text) {
        FaultTest reader = new FaultTest(text);
        reader.readTerms();
        return new int[] {reader.fault, reader.place};
    }

    private FaultTest(String text) {
        int at = 0;
        while (at < text.length()) {
            int end = at + 1;
            String kind = "[a-z]*";
            if (text.substring(at, end).matches("[0-9]")) {
                kind = "[0-9]*";
            }
            while (end < text.length() && text.substring(at, end + 1).matches(kind)) {
                end++;
            }
            if (!text.substring(at, end).matches("[ \n]")) {
                tokens.add(text.substring(at, end));
                starts.add(at);
            }
            at = end;
        }
        tokens.add("");
        starts.add(text.length());
    }

    private void fail(int kind, int token) {
        fault = kind;
        place = starts.get(token);
    }

    /** 0: the token is what may come; else the fault. */
    private static int misfit(String token, String due) {
        if (!due.startsWith("#")) {
            return token.equals(due) ? 0 : 1;
        }
        if (!token.matches("[0-9]{1,5}")) {
            return 1;
        }
        String[] bounds = due.substring(1).split("-");
        int number = Integer.parseInt(token);
        return number >= Integer.parseInt(bounds[0]) && number <= Integer.parseInt(bounds[1]) ? 0 : 2;
    }

    /** Whether the tokens from one on are these; with a fault if not. */
    private boolean row(int from, String... due) {
        for (int i = 0; i < due.length; i++) {
            int kind = misfit(tokens.get(from + i), due[i]);
            if (kind != 0) {
                fail(kind, from + i);
                return false;
            }
        }
        return true;
    }

    private void readAsks() {
        int at = 0;
        int asks = 0;
        while (!tokens.get(at).isEmpty()) {
            if (asks == 6 && tokens.get(at).equals("scene")) {
                fail(2, at);
                return;
            }
            if (!row(at, HEAD)) {
                return;
            }
            at = condition(at + HEAD.length);
            if (at < 0) {
                return;
            }
            asks++;
        }
    }

    /** Walks one condition with a stack of open signs ('n' and '('); the token behind its ';', or -1 with a fault. */
    private int condition(int from) {
        String open = "";
        boolean wantsF = true;
        for (int at = from;; at++) {
            String token = tokens.get(at);
            if (wantsF && (token.equals("not") || token.equals("("))) {
                if (open.length() == 8) {
                    fail(2, at);
                    return -1;
                }
                open += token.charAt(0);
            } else if (wantsF) {
                String[] due = mark(token, tokens.get(Math.min(at + 1, tokens.size() - 1)));
                if (!row(at, due)) {
                    return -1;
                }
                at += due.length - 1;
                wantsF = false;
                open = open.replaceAll("n*$", "");
            } else if (token.equals("or") || token.equals("and")) {
                wantsF = true;
            } else if (token.equals(")") && open.endsWith("(")) {
                open = open.substring(0, open.length() - 1).replaceAll("n*$", "");
            } else if (token.equals(";") && open.isEmpty()) {
                return at + 1;
            } else {
                fail(1, at);
                return -1;
            }
        }
    }

    private static String[] mark(String word, String next) {
        switch (word) {
            case "look": return new String[] {"look", "#0-15"};
            case "home": return new String[] {"home", "#0-3"};
            case "seen": return new String[] {"seen", "#0-19"};
            case "age":
            case "tall": return new String[] {word, next.equals(">") ? ">" : "<", "#0-99999"};
            default: return new String[] {"anyone"};
        }
    }

    private void readTerms() {
        int at = 0;
        int terms = 0;
        while (!tokens.get(at).isEmpty()) {
            String word = tokens.get(at);
            if (terms == 8 && word.matches("base|over|before|after")) {
                fail(2, at);
                return;
            }
            String[] due = {"base", "#0-99999", ";"};
            if (word.matches("over|before|after")) {
                String round = tokens.size() > at + 4 && tokens.get(at + 4).equals("up") ? "up" : "down";
                due = new String[] {word, "#0-99999", "each", "#0-99999", round, ";"};
            }
            if (!row(at, due)) {
                return;
            }
            at += due.length;
            terms++;
        }
    }

    private static String asks(Random random) {
        StringBuilder text = new StringBuilder();
        int asks = random.nextInt(8);
        for (int a = 0; a < asks; a++) {
            text.append("scene ").append(random.nextInt(20)).append(" at ").append(random.nextInt(1440)).append(" for ");
            text.append(1 + random.nextInt(600)).append(" want ").append(1 + random.nextInt(8)).append(" : ");
            any(random, text, random.nextInt(3));
            text.append(" ; ");
        }
        return text.length() > 900 ? text.substring(0, 900) : text.toString();
    }

    private static void any(Random random, StringBuilder text, int depth) {
        one(random, text, depth);
        while (random.nextInt(5) < 2) {
            text.append(random.nextBoolean() ? " or " : " and ");
            one(random, text, depth);
        }
    }

    private static void one(Random random, StringBuilder text, int depth) {
        int kind = depth < 10 ? random.nextInt(8) : 7;
        if (kind < 3) {
            text.append("not ");
            one(random, text, depth + 1);
        } else if (kind < 5) {
            text.append("( ");
            any(random, text, depth + 1);
            text.append(" )");
        } else {
            String[] marks = {"anyone", "look 3", "home 1", "seen 7", "age < 20", "tall > 180"};
            text.append(marks[random.nextInt(marks.length)]);
        }
    }

    private static String terms(Random random) {
        StringBuilder text = new StringBuilder();
        int terms = random.nextInt(11);
        String[] words = {"over", "before", "after"};
        for (int t = 0; t < terms; t++) {
            if (random.nextInt(4) == 0) {
                text.append("base ").append(random.nextInt(100000)).append(" ; ");
            } else {
                text.append(words[random.nextInt(3)]).append(' ').append(random.nextInt(100000)).append(" each ");
                text.append(random.nextInt(100000)).append(random.nextBoolean() ? " up ; " : " down ; ");
            }
        }
        return text.toString();
    }

    /** Puts another token into the text, takes one out, takes one's place, or cuts it off; or leaves it. */
    private static String broken(Random random, String text) {
        String[] parts = text.split(" ");
        int at = random.nextInt(parts.length);
        String other = WORDS[random.nextInt(WORDS.length)];
        switch (random.nextInt(6)) {
            case 0: parts[at] = other; break;
            case 1: parts[at] = parts[at] + " " + other; break;
            case 2: parts[at] = other + parts[at]; break;
            case 3: parts[at] = ""; break;
            case 4: return text.substring(0, random.nextInt(text.length() + 1));
            default: return text;
        }
        String all = String.join(random.nextInt(4) == 0 ? "\n " : " ", parts);
        return all.length() > 1000 ? all.substring(0, 1000) : all;
    }
}
