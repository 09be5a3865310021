import java.util.Random;

/** Promises 6, 8, 9 and 21: asks, place, fits, ask. */
final class AsksTest {
    private static final String HEAD = "scene 1 at 2 for 3 want 4:";

    public static void main(String[] args) {
        reading();
        unfit();
        beyond();
        within();
        faultLeavesAll();
        newAsksDismiss();
        fits();
        canBeIn();
        randomConditions();
        Check.finish("AsksTest");
    }

    private static void reading() {
        ExtrasOffice x = new ExtrasOffice();
        Check.due("no asks", Check.asks(x, ""), 0);
        Check.due("blanks alone", Check.asks(x, " \n \n"), 0);
        Check.due("two", Check.asks(x, "scene19at1439for600want8:anyone;scene 00000\nat 0 for 1 want 1 : anyone ;\n"), 2);
        int[][] due = {{19, 1439, 600, 8, 0, -1}, {0, 0, 1, 1, 0, -1}};
        for (int a = 0; a < 2; a++) {
            for (int what = 0; what < 6; what++) {
                Check.due("ask(" + a + ", " + what + ")", x.ask(a, what), due[a][what]);
            }
            Check.due("ask(" + a + ", -1)", x.ask(a, -1), -1);
        }
        Check.due("ask(2, 0)", x.ask(2, 0), -1);
        Check.due("ask(-1, 0)", x.ask(-1, 0), -1);
        Check.due("six", Check.asks(x, (HEAD + "anyone;").repeat(6)), 6);
        Check.due("place()", x.place(), -1);
    }

    private static void unfit() {
        Check.asksFault("scene", 1, 5);
        Check.asksFault("scene \n", 1, 7);
        Check.asksFault("scen 1", 1, 0);
        Check.asksFault("scenes 1", 1, 0);
        Check.asksFault("scenez 1", 1, 0);
        Check.asksFault("scenea 1", 1, 0);
        Check.asksFault("xcene 1", 1, 0);
        Check.asksFault(" base 1;", 1, 1);
        Check.asksFault("7", 1, 0);
        Check.asksFault(";", 1, 0);
        Check.asksFault("Scene", 1, 0);
        Check.asksFault("sceNe", 1, 0);
        Check.asksFault("scene\t1", 1, 5);
        Check.asksFault("scene\u00001", 1, 5);
        Check.asksFault("scene\u00ff1", 1, 5);
        Check.asksFault("scene 123456 at", 1, 6);
        Check.asksFault("scene 000001 at", 1, 6);
        Check.asksFault("scene 1 2", 1, 8);
        Check.asksFault("scene 1 at 5 at", 1, 13);
        Check.asksFault(HEAD, 1, 26);
        Check.asksFault(HEAD + ";", 1, 26);
        Check.asksFault(HEAD + "anyone", 1, 32);
        Check.asksFault(HEAD + "anyone anyone;", 1, 33);
        Check.asksFault(HEAD + "anyone);", 1, 32);
        Check.asksFault(HEAD + "(anyone;", 1, 33);
        Check.asksFault(HEAD + "()", 1, 27);
        Check.asksFault(HEAD + "anyone or;", 1, 35);
        Check.asksFault(HEAD + "anyone and or anyone;", 1, 37);
        Check.asksFault(HEAD + "not;", 1, 29);
        Check.asksFault(HEAD + "look;", 1, 30);
        Check.asksFault(HEAD + "age 5;", 1, 30);
        Check.asksFault(HEAD + "age <;", 1, 31);
        Check.asksFault(HEAD + "age < > 5;", 1, 32);
        Check.asksFault(HEAD + "tall = 5;", 1, 31);
        Check.asksFault(HEAD + "tall > 123456;", 1, 33);
        Check.asksFault(HEAD + "anyone;;", 1, 33);
        Check.asksFault(HEAD + "anyone;x", 1, 33);
        Check.asksFault((HEAD + "anyone;").repeat(6) + "seen 1", 1, 6 * 33);
    }

    private static void beyond() {
        Check.asksFault("scene 20", 2, 6);
        Check.asksFault("scene 99999", 2, 6);
        Check.asksFault("scene 1 at 1440 x", 2, 11);
        Check.asksFault("scene 1 at 1 for 0", 2, 17);
        Check.asksFault("scene 1 at 1 for 601", 2, 17);
        Check.asksFault("scene 1 at 1 for 1 want 0", 2, 24);
        Check.asksFault("scene 1 at 1 for 1 want 9", 2, 24);
        Check.asksFault(HEAD + "look 16", 2, 31);
        Check.asksFault(HEAD + "home 4", 2, 31);
        Check.asksFault(HEAD + "seen 20", 2, 31);
        Check.asksFault((HEAD + "anyone;").repeat(6) + " scene", 2, 6 * 33 + 1);
        ExtrasOffice x = new ExtrasOffice();
        String text = HEAD + "look 15 and home 3 and seen 19 and age < 99999 and tall > 0;";
        Check.due("the highest numbers", Check.asks(x, text), 1);
    }

    private static void within() {
        ExtrasOffice x = new ExtrasOffice();
        Check.due("eight nots", Check.asks(x, HEAD + "not ".repeat(8) + "anyone;"), 1);
        Check.due("eight (", Check.asks(x, HEAD + "(".repeat(8) + "anyone" + ")".repeat(8) + ";"), 1);
        Check.due("one behind another", Check.asks(x, HEAD + "not anyone or (anyone) or ".repeat(10) + "not anyone;"), 1);
        Check.due("deep twice", Check.asks(x, HEAD + "not(".repeat(4) + "anyone" + ")".repeat(4) + " and "
                + "(not ".repeat(4) + "anyone" + ")".repeat(4) + ";"), 1);
        Check.asksFault(HEAD + "not ".repeat(9) + "anyone;", 2, 26 + 32);
        Check.asksFault(HEAD + "(".repeat(8) + "not", 2, 26 + 8);
        Check.asksFault(HEAD + "not(".repeat(4) + "anyone)or(not(", 2, 26 + 16 + 10 + 3);
        Check.asksFault(HEAD + "(not ".repeat(4) + "anyone and ((", 2, 26 + 20 + 12);
        Check.due("a not ends with its F", Check.asks(x, HEAD + "(".repeat(7) + "not anyone and not anyone"
                + ")".repeat(7) + ";"), 1);
    }

    private static void faultLeavesAll() {
        ExtrasOffice x = new ExtrasOffice();
        x.person(20, 170, 0, 0, 5);
        Check.asks(x, "scene 3 at 4 for 5 want 1:anyone;");
        x.lay();
        Check.due("a fault", Check.asks(x, "scene 7 at 8 for 9 want 2:anyone;scene"), -3);
        Check.due("place()", x.place(), 38);
        Check.due("count(1)", x.count(1), 1);
        Check.due("ask(0, 0)", x.ask(0, 0), 3);
        Check.due("called(0)", x.called(0), 0);
        Check.due("fits", x.fits(0, 0, 0), 1);
        Check.due("asks of nothing", x.asks(), 0);
        Check.due("place()", x.place(), -1);
    }

    private static void newAsksDismiss() {
        ExtrasOffice x = new ExtrasOffice();
        x.person(20, 170, 0, 0, 5);
        Check.asks(x, HEAD + "anyone;");
        x.lay();
        Check.due("count(5)", x.count(5), 1);
        Check.asks(x, HEAD + "anyone;");
        Check.due("count(5)", x.count(5), 0);
        Check.due("called(0)", x.called(0), -1);
        Check.due("ask(0, 4)", x.ask(0, 4), 0);
    }

    private static void fits() {
        ExtrasOffice x = new ExtrasOffice();
        x.person(30, 170, 1 << 15 | 1 << 3, 2, 5);
        String[] holds = {"anyone", "look 15", "look 3", "home 2", "age > 29", "age < 31", "tall > 169", "tall < 171",
            "not look 0", "not seen 4", "not not anyone", "look 0 or anyone", "anyone or look 0 and look 1",
            "(anyone or look 0) and look 3", "not look 0 and anyone"};
        String[] fails = {"look 0", "look 14", "home 0", "age > 30", "age < 30", "tall > 170", "tall < 170", "seen 4",
            "not anyone", "(anyone or look 0) and look 1", "not (look 3 and anyone)", "look 0 and look 1 or look 2",
            "not anyone or not anyone", "not look 0 and look 1"};
        for (String each : holds) {
            Check.asks(x, HEAD + each + ";");
            Check.due("fits " + each, x.fits(0, 0, 0), 1);
        }
        for (String each : fails) {
            Check.asks(x, HEAD + each + ";");
            Check.due("fits " + each, x.fits(0, 0, 0), 0);
        }
        Check.due("no such person", x.fits(1, 0, 0), -1);
        Check.due("no such person", x.fits(-1, 0, 0), -1);
        Check.due("no such ask", x.fits(0, 1, 0), -1);
        Check.due("no such ask", x.fits(0, -1, 0), -1);
        Check.due("no such what", x.fits(0, 0, 2), -1);
        Check.due("no such what", x.fits(0, 0, -1), -1);
        Check.asks(x, HEAD + "seen 4;");
        x.tell(0, 4);
        Check.due("as told by now", x.fits(0, 0, 0), 1);
    }

    private static void canBeIn() {
        ExtrasOffice x = new ExtrasOffice();
        x.person(30, 170, 0, 0, 1);
        Check.asks(x, HEAD + "anyone; " + HEAD + "look 1;");
        Check.due("can be in", x.fits(0, 0, 1), 1);
        Check.due("does not fit", x.fits(0, 1, 1), 0);
        x.away(0, true);
        Check.due("is away", x.fits(0, 0, 1), 0);
        Check.due("fits all the same", x.fits(0, 0, 0), 1);
        x.away(0, false);
        Check.asks(x, "scene 0 at 1000 for 179 want 1: anyone;");
        x.lay();
        Check.due("sent", x.step(1, 0), 1180);
        Check.due("free", x.about(0, 7), 1840);
        Check.asks(x, "scene 0 at 399 for 1 want 1: anyone; scene 0 at 400 for 1 want 1: anyone;");
        Check.due("not free", x.fits(0, 0, 1), 0);
        Check.due("free", x.fits(0, 1, 1), 1);
    }

    /** Conditions made as texts together with whether they hold for one person of known marks. */
    private static void randomConditions() {
        Random random = new Random(5);
        for (int n = 0; n < 400; n++) {
            ExtrasOffice x = new ExtrasOffice();
            x.person(30, 170, 0x0f0f, 2, 5);
            x.tell(0, 3);
            StringBuilder text = new StringBuilder();
            boolean holds = any(random, text, 0);
            if (text.length() < 950) {
                Check.due(text.toString(), Check.asks(x, HEAD + text + ";"), 1);
                Check.due(text.toString(), x.fits(0, 0, 0), holds ? 1 : 0);
            }
        }
    }

    private static boolean any(Random random, StringBuilder text, int depth) {
        boolean holds = both(random, text, depth);
        while (random.nextInt(5) < 2) {
            text.append(" or ");
            holds |= both(random, text, depth);
        }
        return holds;
    }

    private static boolean both(Random random, StringBuilder text, int depth) {
        boolean holds = one(random, text, depth);
        while (random.nextInt(5) < 2) {
            text.append(" and ");
            holds &= one(random, text, depth);
        }
        return holds;
    }

    private static boolean one(Random random, StringBuilder text, int depth) {
        int kind = depth < 8 ? random.nextInt(9) : 4 + random.nextInt(5);
        if (kind < 2) {
            text.append("not ");
            return !one(random, text, depth + 1);
        }
        if (kind < 4) {
            text.append("(");
            boolean holds = any(random, text, depth + 1);
            text.append(")");
            return holds;
        }
        int number = random.nextInt(4);
        switch (kind) {
            case 4: text.append("look ").append(number + 2); return number < 2;
            case 5: text.append("home ").append(number); return number == 2;
            case 6: text.append("seen ").append(number); return number == 3;
            case 7: text.append("age<").append(number + 29); return number > 1;
            default: text.append("tall>").append(number + 168); return number < 2;
        }
    }
}
