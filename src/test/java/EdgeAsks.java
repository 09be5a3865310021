/** Edges of the text of ASKS and of promises 6, 8, 9 and 21: asks, place, fits, ask. */
final class EdgeAsks {
    private static final String HEAD = "scene 1 at 2 for 3 want 4:";
    private static final String ASK = HEAD + "anyone;";

    private EdgeAsks() {
    }

    static void all() {
        texts();
        marks();
        faults();
        Edge.test(6, "The TAPE (empty then) becomes the ASKS of the DAY, in place of those there were; nobody is CALLED: "
                + "how many", EdgeAsks::inPlaceOfThoseThereWere);
        Edge.test(6, "with a FAULT: 2 less than minus its kind (-3, -4), and all else stays.", EdgeAsks::faultyAsks);
        Edge.test(8, "The place of the FAULT of the latest asks() or agree() that was not -2", EdgeAsks::latestPlace);
        Edge.test(8, "NONE without one.", EdgeAsks::noPlace);
        Edge.test(9, "Whether a PERSON FITS an ASK (0), CAN be in it (1): 1, 0", EdgeAsks::fitsAndCan);
        Edge.test(9, "NONE: no such PERSON, ASK, what.", EdgeAsks::fitsOfNothing);
        Edge.test(21, "Of an ASK what 0 SCENE, 1 minute of the CALL, 2 minutes it takes, 3 how many it WANTS, "
                + "4 how many are CALLED in it.", EdgeAsks::askFirstAndLast);
        Edge.test(21, "NONE: no such one.", EdgeAsks::askOfNothing);
    }

    private static void texts() {
        Edge.test(Edge.TERMS, "ASKS: {ASK}.", EdgeAsks::noneToSix);
        Edge.test(Edge.TERMS, "ASK: scene NUMBER at NUMBER for NUMBER want NUMBER : E ;", EdgeAsks::eachTokenIsDue);
        Edge.test(Edge.TERMS, "the minute of the CALL, 0 to 1439",
                () -> between("scene 1 at ", " for 3 want 4: anyone;", 1, 0, 1439));
        Edge.test(Edge.TERMS, "how many minutes the SCENE takes, 1 to 600",
                () -> between("scene 1 at 2 for ", " want 4: anyone;", 2, 1, 600));
        Edge.test(Edge.TERMS, "how many it WANTS, 1 to 8",
                () -> between("scene 1 at 2 for 3 want ", ": anyone;", 3, 1, 8));
        Edge.test(Edge.TERMS, "SCENES are numbered 0 to 19",
                () -> between("scene ", " at 2 for 3 want 4: anyone;", 0, 0, 19));
        Edge.test(Edge.TERMS, "E: T {or T}. T: F {and F}.", EdgeAsks::orsAndAnds);
        Edge.test(Edge.TERMS, "E: T {or T}. T: F {and F}.", EdgeAsks::asManyAsTheTapeHas);
        Edge.test(Edge.TERMS, "F: not F | ( E ) | anyone", EdgeAsks::notsAndBrackets);
    }

    private static void marks() {
        Edge.test(Edge.TERMS, "look NUMBER (0 to 15: that bit of LOOKS)", EdgeAsks::lookOfEachBit);
        Edge.test(Edge.TERMS, "home NUMBER (0 to 3)", EdgeAsks::homeOfEach);
        Edge.test(Edge.TERMS, "seen NUMBER (a SCENE: SEEN in it, as told by when this is asked)", EdgeAsks::seenByNow);
        Edge.test(Edge.TERMS, "age REL NUMBER | tall REL NUMBER.", EdgeAsks::lessAndMore);
        Edge.test(Edge.TERMS, "REL: < | >.", EdgeAsks::lessAndMoreAlone);
    }

    private static void faults() {
        Edge.test(Edge.TERMS, "1 a byte or TOKEN with which no such text goes on", EdgeAsks::firstUnfitToken);
        Edge.test(Edge.TERMS, "(the end: at how many bytes there are; a NUMBER of more digits, at its first one)",
                EdgeAsks::endOfTheText);
        Edge.test(Edge.TERMS, "a NUMBER of more digits, at its first one", EdgeAsks::sixDigits);
        Edge.test(Edge.TERMS, "2 at a NUMBER that is not within its bounds", EdgeAsks::numbersBeyond);
        Edge.test(Edge.TERMS, "at the word of a 7th ASK, a 9th TERM", EdgeAsks::seventhAsk);
        Edge.test(Edge.TERMS, "at a not or ( that would lie within 8 others of these in its ASK.", EdgeAsks::withinEight);
        Edge.test(Edge.TERMS, "at a not or ( that would lie within 8 others of these in its ASK.", EdgeAsks::besideEight);
        Edge.test(Edge.TERMS, "FAULTS, the first from the left, of one place the least", EdgeAsks::firstFromTheLeft);
        Edge.test(Edge.TERMS, "FAULTS, the first from the left, of one place the least", EdgeAsks::leastOfOnePlace);
    }

    private static void noneToSix() {
        for (int asks = 0; asks <= 6; asks++) {
            ExtrasOffice x = new ExtrasOffice();
            Check.due("asks() of " + asks, Check.asks(x, ASK.repeat(asks)), asks);
            Check.due("count(1)", x.count(1), asks);
            Check.due("the last one", x.ask(asks - 1, 0), asks == 0 ? -1 : 1);
            Check.due("one behind", x.ask(asks, 0), -1);
            Check.due("place()", x.place(), -1);
        }
        Check.asksFault(ASK.repeat(7), 2, 6 * ASK.length());
        ExtrasOffice x = new ExtrasOffice();
        Check.due("blanks alone", Check.asks(x, " \n"), 0);
    }

    /** A text cut off behind each of its TOKENS, and one with another TOKEN in its place, has the FAULT there. */
    private static void eachTokenIsDue() {
        String[] tokens = {"scene", "1", "at", "2", "for", "3", "want", "4", ":", "anyone", ";"};
        for (int cut = 1; cut < tokens.length; cut++) {
            StringBuilder ahead = new StringBuilder();
            for (int i = 0; i < cut; i++) {
                ahead.append(tokens[i]).append(' ');
            }
            Check.asksFault(ahead.toString(), 1, ahead.length());
            Check.asksFault(ahead + "<", 1, ahead.length());
            Check.asksFault(ahead + "up", 1, ahead.length());
            Check.asksFault(ahead + "scene", 1, ahead.length());
            if (!tokens[cut].matches("[0-9]+")) {
                Check.asksFault(ahead + "5", 1, ahead.length());
            }
        }
    }

    /** The lowest and the highest NUMBER are taken; those beside them are a FAULT of kind 2 at the NUMBER. */
    private static void between(String ahead, String behind, int what, int low, int high) {
        for (int number : new int[] {low, high}) {
            ExtrasOffice x = new ExtrasOffice();
            Check.due(ahead + number + behind, Check.asks(x, ahead + number + behind), 1);
            Check.due("ask(0, " + what + ")", x.ask(0, what), number);
        }
        if (low > 0) {
            Check.asksFault(ahead + (low - 1) + behind, 2, ahead.length());
        }
        Check.asksFault(ahead + (high + 1) + behind, 2, ahead.length());
        Check.asksFault(ahead + 99999 + behind, 2, ahead.length());
        Check.asksFault(ahead + "-1" + behind, 1, ahead.length());
    }

    private static int holds(String condition) {
        ExtrasOffice x = new ExtrasOffice();
        x.person(30, 170, 1, 2, 5);
        Check.due("asks() of " + condition, Check.asks(x, HEAD + condition + ";"), 1);
        return x.fits(0, 0, 0);
    }

    private static void orsAndAnds() {
        // look 0 holds, look 1 does not
        String[] parts = {"look 1", "look 0"};
        for (int a = 0; a < 2; a++) {
            Check.due(parts[a], holds(parts[a]), a);
            for (int b = 0; b < 2; b++) {
                Check.due("or", holds(parts[a] + " or " + parts[b]), a | b);
                Check.due("and", holds(parts[a] + " and " + parts[b]), a & b);
                for (int c = 0; c < 2; c++) {
                    Check.due("or and", holds(parts[a] + " or " + parts[b] + " and " + parts[c]), a | b & c);
                    Check.due("and or", holds(parts[a] + " and " + parts[b] + " or " + parts[c]), a & b | c);
                    Check.due("or or", holds(parts[a] + " or " + parts[b] + " or " + parts[c]), a | b | c);
                    Check.due("and and", holds(parts[a] + " and " + parts[b] + " and " + parts[c]), a & b & c);
                }
            }
        }
        Check.asksFault(HEAD + "or anyone;", 1, HEAD.length());
        Check.asksFault(HEAD + "and anyone;", 1, HEAD.length());
        Check.asksFault(HEAD + "anyone or", 1, HEAD.length() + 9);
        Check.asksFault(HEAD + "anyone and;", 1, HEAD.length() + 10);
        Check.asksFault(HEAD + "anyone or and anyone;", 1, HEAD.length() + 10);
    }

    private static void asManyAsTheTapeHas() {
        Check.due("or of many", holds("look 1 or ".repeat(95) + "look 0"), 1);
        Check.due("or of many", holds("look 0 or " + "look 1 or ".repeat(94) + "look 1"), 1);
        Check.due("or of many", holds("look 1 or ".repeat(95) + "look 1"), 0);
        Check.due("and of many", holds("look 0 and ".repeat(85) + "look 1"), 0);
        Check.due("and of many", holds("look 1 and " + "look 0 and ".repeat(84) + "look 0"), 0);
        Check.due("and of many", holds("look 0 and ".repeat(85) + "look 0"), 1);
        Check.due("both of many", holds("look 0 and look 1 or ".repeat(43) + "look 0 and look 0"), 1);
        Check.due("( of many", holds("(look 1)or".repeat(95) + "(look 0)"), 1);
        ExtrasOffice x = Office.of(1);
        String full = HEAD + "look 1 or ".repeat(96) + "anyone;";
        for (int n = 0; n < 8; n++) {
            Check.due("one long text behind another", Check.asks(x, full), 1);
            Check.due("fits(0, 0, 0)", x.fits(0, 0, 0), 1);
        }
        Check.due("not of many", holds("not look 0 or ".repeat(67) + "not look 1"), 1);
    }

    private static void notsAndBrackets() {
        Check.due("anyone", holds("anyone"), 1);
        Check.due("not anyone", holds("not anyone"), 0);
        Check.due("not binds its F alone", holds("not look 1 and look 1"), 0);
        Check.due("not binds its F alone", holds("not look 0 or look 0"), 1);
        Check.due("not of (", holds("not (look 1 and look 1)"), 1);
        Check.due("not of (", holds("not (look 0 or look 0)"), 0);
        Check.due("( ahead", holds("(look 0 or look 0) and look 1"), 0);
        Check.due("( behind", holds("look 1 and (look 0 or look 0)"), 0);
        for (int nots = 0; nots <= 8; nots++) {
            Check.due("not " + nots + " times", holds("not ".repeat(nots) + "look 0"), 1 - nots % 2);
            Check.due("( " + nots + " times", holds("(".repeat(nots) + "look 0" + ")".repeat(nots)), 1);
        }
        Check.due("( each time on the right", holds("look 1 or look 0 and(".repeat(8) + "look 0" + ")".repeat(8)), 1);
        Check.due("( each time on the right", holds("look 1 or look 0 and(".repeat(8) + "look 1" + ")".repeat(8)), 0);
        Check.asksFault(HEAD + "();", 1, HEAD.length() + 1);
        Check.asksFault(HEAD + "(anyone;", 1, HEAD.length() + 7);
        Check.asksFault(HEAD + "anyone);", 1, HEAD.length() + 6);
        Check.asksFault(HEAD + "not;", 1, HEAD.length() + 3);
        Check.asksFault(HEAD + ";", 1, HEAD.length());
        Check.asksFault(HEAD + "anyone not anyone;", 1, HEAD.length() + 7);
        Check.asksFault(HEAD + "anyone (anyone);", 1, HEAD.length() + 7);
    }

    private static void lookOfEachBit() {
        for (int bit = 0; bit <= 15; bit++) {
            ExtrasOffice x = new ExtrasOffice();
            x.person(30, 170, 1 << bit, 0, 5);
            x.person(30, 170, 65535 ^ 1 << bit, 0, 5);
            Check.due("look " + bit, Check.asks(x, HEAD + "look " + bit + ";"), 1);
            Check.due("that bit alone", x.fits(0, 0, 0), 1);
            Check.due("all the others", x.fits(1, 0, 0), 0);
        }
        Check.asksFault(HEAD + "look 16;", 2, HEAD.length() + 5);
        Check.asksFault(HEAD + "look 99999;", 2, HEAD.length() + 5);
        Check.asksFault(HEAD + "look;", 1, HEAD.length() + 4);
    }

    private static void homeOfEach() {
        ExtrasOffice x = new ExtrasOffice();
        for (int home = 0; home <= 3; home++) {
            x.person(30, 170, 0, home, 5);
        }
        for (int home = 0; home <= 3; home++) {
            Check.due("home " + home, Check.asks(x, HEAD + "home " + home + ";"), 1);
            for (int p = 0; p <= 3; p++) {
                Check.due("fits(" + p + ", 0, 0)", x.fits(p, 0, 0), p == home ? 1 : 0);
            }
        }
        Check.asksFault(HEAD + "home 4;", 2, HEAD.length() + 5);
        Check.asksFault(HEAD + "home 99999;", 2, HEAD.length() + 5);
        Check.asksFault(HEAD + "home;", 1, HEAD.length() + 4);
    }

    private static void seenByNow() {
        for (int scene : new int[] {0, 19}) {
            ExtrasOffice x = Office.of(2);
            Check.due("asks()", Check.asks(x, HEAD + "seen " + scene + "; " + HEAD + "not seen " + scene + ";"), 2);
            Check.due("ahead of the FACT", x.fits(0, 0, 0), 0);
            Check.due("ahead of the FACT", x.fits(0, 1, 0), 1);
            x.tell(0, 19 - scene);
            Check.due("SEEN in another SCENE", x.fits(0, 0, 0), 0);
            x.tell(1, scene);
            Check.due("another one was SEEN", x.fits(0, 0, 0), 0);
            x.tell(0, scene);
            Check.due("behind the FACT", x.fits(0, 0, 0), 1);
            Check.due("behind the FACT", x.fits(0, 1, 0), 0);
            Check.due("CAN be in it", x.fits(0, 0, 1), 1);
        }
        Check.asksFault(HEAD + "seen 20;", 2, HEAD.length() + 5);
        Check.asksFault(HEAD + "seen 99999;", 2, HEAD.length() + 5);
        Check.asksFault(HEAD + "seen;", 1, HEAD.length() + 4);
    }

    private static void lessAndMore() {
        int[][] people = {{0, 50}, {99, 230}, {30, 170}};
        for (int[] marks : people) {
            ExtrasOffice x = new ExtrasOffice();
            x.person(marks[0], marks[1], 0, 0, 5);
            for (int mark = 0; mark < 2; mark++) {
                String word = mark == 0 ? "age" : "tall";
                for (int bound : new int[] {marks[mark] - 1, marks[mark], marks[mark] + 1}) {
                    if (bound >= 0) {
                        Check.due("asks()", Check.asks(x, HEAD + word + "<" + bound + ";" + HEAD + word + ">" + bound + ";"), 2);
                        Check.due(word + " < " + bound, x.fits(0, 0, 0), marks[mark] < bound ? 1 : 0);
                        Check.due(word + " > " + bound, x.fits(0, 1, 0), marks[mark] > bound ? 1 : 0);
                    }
                }
                Check.due("asks()", Check.asks(x, HEAD + word + "<0;" + HEAD + word + ">99999;" + HEAD + word + "<99999;"), 3);
                Check.due(word + " < 0", x.fits(0, 0, 0), 0);
                Check.due(word + " > 99999", x.fits(0, 1, 0), 0);
                Check.due(word + " < 99999", x.fits(0, 2, 0), 1);
            }
        }
        Check.asksFault(HEAD + "age < 100000;", 1, HEAD.length() + 6);
        Check.asksFault(HEAD + "tall > 100000;", 1, HEAD.length() + 7);
    }

    private static void lessAndMoreAlone() {
        Check.due("<", holds("age < 31"), 1);
        Check.due(">", holds("age > 29"), 1);
        for (String other : new String[] {"=", ":", ";", "(", "5", "or", "<<", "<>", "><"}) {
            int place = HEAD.length() + 4 + (other.length() == 2 && !other.equals("or") ? 1 : 0);
            Check.asksFault(HEAD + "age " + other + " 5;", 1, place);
            Check.asksFault(HEAD + "tall" + other + " 5;", 1, other.equals("or") ? HEAD.length() : place);
        }
        Check.asksFault(HEAD + "age <;", 1, HEAD.length() + 5);
        Check.asksFault(HEAD + "tall", 1, HEAD.length() + 4);
    }

    private static void firstUnfitToken() {
        Check.asksFault("base 1;", 1, 0);
        Check.asksFault("1", 1, 0);
        Check.asksFault(";", 1, 0);
        Check.asksFault("\u0000", 1, 0);
        Check.asksFault("\u00ff", 1, 0);
        Check.asksFault("scene\u00001", 1, 5);
        Check.asksFault("scene 1\u00ff", 1, 7);
        Check.asksFault(ASK + "\u0000", 1, ASK.length());
        Check.asksFault(ASK + "anyone;", 1, ASK.length());
        Check.asksFault(ASK + "scenes 1", 1, ASK.length());
        Check.asksFault(HEAD + "seem 1;", 1, HEAD.length());
        Check.agreeFault("scene 1", 1, 0);
        Check.agreeFault("\u00ff", 1, 0);
    }

    private static void endOfTheText() {
        Check.asksFault("scene", 1, 5);
        Check.asksFault("scene ", 1, 6);
        Check.asksFault("scene \n \n", 1, 9);
        Check.asksFault(HEAD + "anyone", 1, HEAD.length() + 6);
        Check.asksFault(HEAD + "anyone or ", 1, HEAD.length() + 10);
        Check.asksFault(ASK.repeat(6) + " s", 1, 6 * ASK.length() + 1);
        Check.asksFault(HEAD + "(".repeat(8), 1, HEAD.length() + 8);
        Check.agreeFault("base", 1, 4);
        Check.agreeFault("base 1", 1, 6);
        Check.agreeFault("base 1 \n", 1, 8);
    }

    private static void sixDigits() {
        Check.asksFault("scene 100000 at", 1, 6);
        Check.asksFault("scene   100000", 1, 8);
        Check.asksFault("scene100000", 1, 5);
        Check.asksFault(HEAD + "look 000001;", 1, HEAD.length() + 5);
        Check.agreeFault("base 100000;", 1, 5);
        ExtrasOffice x = new ExtrasOffice();
        Check.due("five digits", Check.asks(x, "scene 00001 at 00002 for 00003 want 00004: look 00005;"), 1);
    }

    private static void numbersBeyond() {
        Check.asksFault("scene 20 at", 2, 6);
        Check.asksFault("scene 1 at 1440 for", 2, 11);
        Check.asksFault("scene 1 at 2 for 0 want", 2, 17);
        Check.asksFault("scene 1 at 2 for 601 want", 2, 17);
        Check.asksFault("scene 1 at 2 for 3 want 0:", 2, 24);
        Check.asksFault("scene 1 at 2 for 3 want 9:", 2, 24);
        Check.asksFault(HEAD + "not (look 16", 2, HEAD.length() + 10);
        Check.asksFault(ASK + "scene 00020", 2, ASK.length() + 6);
    }

    private static void seventhAsk() {
        String six = ASK.repeat(6);
        ExtrasOffice x = new ExtrasOffice();
        Check.due("six", Check.asks(x, six + " \n"), 6);
        Check.asksFault(six + "scene", 2, six.length());
        Check.asksFault(six + " \nscene 1 at", 2, six.length() + 2);
        Check.asksFault(six + "scene 99", 2, six.length());
        Check.asksFault(six + ASK, 2, six.length());
        Check.asksFault(six + "scen", 1, six.length());
        Check.asksFault(six + "scenes", 1, six.length());
        Check.asksFault(six + "at", 1, six.length());
        Check.asksFault(six + "1", 1, six.length());
        Check.asksFault(six + ";", 1, six.length());
    }

    private static void withinEight() {
        int at = HEAD.length();
        Check.due("eight (", holds("(".repeat(8) + "anyone" + ")".repeat(8)), 1);
        Check.due("eight not", holds("not ".repeat(8) + "anyone"), 1);
        Check.due("four of each", holds("not(".repeat(4) + "anyone" + ")".repeat(4)), 1);
        Check.asksFault(HEAD + "(".repeat(9) + "anyone", 2, at + 8);
        Check.asksFault(HEAD + "not ".repeat(9) + "anyone", 2, at + 32);
        Check.asksFault(HEAD + "(".repeat(8) + "not anyone", 2, at + 8);
        Check.asksFault(HEAD + "not ".repeat(8) + "(anyone", 2, at + 32);
        Check.asksFault(HEAD + "not(".repeat(4) + "not anyone", 2, at + 16);
        Check.asksFault(HEAD + "(not ".repeat(4) + "(anyone", 2, at + 20);
        Check.asksFault(HEAD + "(".repeat(8) + "anyone or not anyone", 2, at + 18);
        Check.asksFault(HEAD + "(".repeat(8) + "anyone and (anyone", 2, at + 19);
        Check.asksFault(HEAD + "(".repeat(900), 2, at + 8);
    }

    /** What stands beside one another does not lie within; each ASK counts for itself. */
    private static void besideEight() {
        int at = HEAD.length();
        String deep = "(".repeat(8) + "anyone" + ")".repeat(8);
        Check.due("deep beside deep", holds(deep + " and " + deep + " or not " + "(".repeat(7) + "anyone" + ")".repeat(7)), 1);
        Check.due("a not ends with its F", holds("(".repeat(7) + "not look 1 and not look 1" + ")".repeat(7)), 1);
        Check.due("nots beside one another", holds("not look 1 and ".repeat(20) + "not look 1"), 1);
        ExtrasOffice x = new ExtrasOffice();
        Check.due("each ASK for itself", Check.asks(x, (HEAD + "not ".repeat(8) + "anyone;").repeat(6)), 6);
        Check.asksFault(HEAD + deep + "or" + "(".repeat(9), 2, at + 22 + 2 + 8);
        Check.asksFault(HEAD + "(".repeat(7) + "not anyone and not not anyone", 2, at + 7 + 19);
        Check.asksFault(ASK + HEAD + "not ".repeat(9), 2, ASK.length() + at + 32);
    }

    private static void firstFromTheLeft() {
        Check.asksFault("scene 20 at 1440 for 601", 2, 6);
        Check.asksFault("scene 20 \t", 2, 6);
        Check.asksFault("scene 1 \t 1440", 1, 8);
        Check.asksFault("scene 1 at 123456 for 0", 1, 11);
        Check.asksFault("scene 1 at 1440 for 123456", 2, 11);
        Check.asksFault(HEAD + "(".repeat(9) + " up", 2, HEAD.length() + 8);
        Check.asksFault(HEAD + "(".repeat(8) + " up (", 1, HEAD.length() + 9);
        Check.asksFault(HEAD + "look 16" + ASK.repeat(7), 2, HEAD.length() + 5);
        Check.asksFault(ASK.repeat(5) + "scene 20", 2, 5 * ASK.length() + 6);
        Check.asksFault(ASK.repeat(6) + "scene 20", 2, 6 * ASK.length());
    }

    /** A NUMBER of six digits is beyond its bounds too, but kind 1 is the least; likewise what is not due at all. */
    private static void leastOfOnePlace() {
        Check.asksFault("scene 999999 at", 1, 6);
        Check.asksFault("scene 1 at 100000 for", 1, 11);
        Check.asksFault(HEAD + "home 000004;", 1, HEAD.length() + 5);
        Check.asksFault(HEAD + "(".repeat(8) + "anyone (anyone", 1, HEAD.length() + 15);
        Check.asksFault(HEAD + "(".repeat(8) + "anyone not anyone", 1, HEAD.length() + 15);
        Check.asksFault(ASK.repeat(5) + HEAD + "anyone scene", 1, 6 * ASK.length());
        Check.asksFault("scene 1 20 at", 1, 8);
    }

    private static void inPlaceOfThoseThereWere() {
        ExtrasOffice x = Office.busy();
        Check.due("two CALLED", x.count(5), 2);
        Check.due("asks()", x.asks(), 1);
        Check.due("the TAPE is empty then", x.count(6), 0);
        Check.due("nobody is CALLED", x.count(5), 0);
        for (int p = 0; p < 4; p++) {
            Check.due("called(" + p + ")", x.called(p), -1);
        }
        Check.due("the new one", x.ask(0, 0), 7);
        Check.due("CALLED in it", x.ask(0, 4), 0);
        Check.due("no second one", x.ask(1, 0), -1);
        Check.due("six in place of one", Check.asks(x, ASK.repeat(6)), 6);
        Check.due("CALLED", x.lay(), 3);
        Check.due("none in place of six", x.asks(), 0);
        Check.due("count(1)", x.count(1), 0);
        Check.due("count(5)", x.count(5), 0);
        Check.due("ask(0, 0)", x.ask(0, 0), -1);
        Check.due("lay()", x.lay(), -1);
        Check.due("the DAY is the same", x.count(4), 1);
    }

    private static void faultyAsks() {
        Office.faultLeavesAll("scene 20", ExtrasOffice::asks, -4, 6);
        Office.faultLeavesAll("base 1;", ExtrasOffice::asks, -3, 0);
        Office.faultLeavesAll(ASK + ASK + "scene", ExtrasOffice::asks, -3, 2 * ASK.length() + 5);
        Office.faultLeavesAll(ASK.repeat(6) + "scene", ExtrasOffice::asks, -4, 6 * ASK.length());
        Office.faultLeavesAll(HEAD + "not ".repeat(9) + "anyone;", ExtrasOffice::asks, -4, HEAD.length() + 32);
        ExtrasOffice x = new ExtrasOffice();
        Check.due("a FAULT ahead of all ASKS", Check.asks(x, "x"), -3);
        Check.due("no ASKS", x.count(1), 0);
        Check.due("a text behind the FAULT", Check.asks(x, ASK), 1);
    }

    private static void latestPlace() {
        ExtrasOffice x = new ExtrasOffice();
        Check.asks(x, "x");
        Check.due("place 0", x.place(), 0);
        Check.asks(x, "scene 20");
        Check.due("of asks()", x.place(), 6);
        Check.agree(x, "base");
        Check.due("of agree()", x.place(), 4);
        Check.asks(x, " scene");
        Check.due("of asks() again", x.place(), 6);
        Check.asks(x, " ".repeat(999) + "x");
        Check.due("the last place but one there is", x.place(), 999);
        Check.asks(x, " ".repeat(995) + "scene");
        Check.due("the last place there is", x.place(), 1000);
        x.asks();
        Check.due("of asks() without a FAULT", x.place(), -1);
        Check.agree(x, "base");
        x.agree();
        Check.due("of agree() without a FAULT", x.place(), -1);
        for (int n = 1; n < 30; n++) {
            x.agree();
        }
        Check.asks(x, "scene 20");
        Check.agree(x, "base x");
        Check.due("not of an agree() that was -2", x.place(), 6);
        x.person(30, 170, 0, 0, 5);
        x.lay();
        x.end(0);
        x.feed(0, 0, 0, 0, 0);
        Check.due("no other call changes it", x.place(), 6);
        x.asks();
        Check.due("of the asks() behind it", x.place(), 0);
        x.end(0);
        x.asks();
        Check.due("agree() of thirty", x.agree(), -2);
        Check.due("no place came by it", x.place(), -1);
    }

    private static void noPlace() {
        ExtrasOffice x = new ExtrasOffice();
        Check.due("of nothing", x.place(), -1);
        Check.feed(x, "scene");
        Check.due("ahead of asks()", x.place(), -1);
        x.asks();
        Check.due("with a FAULT", x.place(), 5);
        Check.feed(x, ASK);
        Check.due("ahead of the next asks()", x.place(), 5);
        x.asks();
        Check.due("without a FAULT", x.place(), -1);
        x.person(30, 170, 0, 0, 5);
        Check.asks(x, "scene 20");
        x.lay();
        x.no(0);
        x.lay();
        x.away(0, false);
        x.lay();
        x.step(1, 0);
        Check.due("a DAY later", x.place(), 6);
    }

    private static void fitsAndCan() {
        ExtrasOffice x = Office.busy();
        int[][] due = {{1, 0, 1, 0}, {1, 1, 1, 1}, {0, 1, 0, 1}, {1, 1, 0, 0}};
        for (int p = 0; p < 4; p++) {
            Check.due("fits(" + p + ", 0, 0)", x.fits(p, 0, 0), due[p][0]);
            Check.due("fits(" + p + ", 1, 0)", x.fits(p, 1, 0), due[p][1]);
            Check.due("fits(" + p + ", 0, 1)", x.fits(p, 0, 1), due[p][2]);
            Check.due("fits(" + p + ", 1, 1)", x.fits(p, 1, 1), due[p][3]);
        }
        ExtrasOffice y = Office.of(40);
        Check.asks(y, ASK.repeat(5) + HEAD + "not anyone;");
        Check.due("the last PERSON, the first ASK", y.fits(39, 0, 1), 1);
        Check.due("the last PERSON, the last ASK", y.fits(39, 5, 0), 0);
        Check.due("the last PERSON, the last ASK", y.fits(39, 5, 1), 0);
    }

    private static void fitsOfNothing() {
        for (int none : new int[] {-1, 4, Edge.LEAST, Edge.HIGHEST}) {
            Office.refuses("fits(" + none + ", 0, 0)", -1, x -> x.fits(none, 0, 0));
            Office.refuses("fits(1, " + none + ", 1)", -1, x -> x.fits(1, none, 1));
            Office.refuses("fits(1, 0, " + none + ")", -1, x -> x.fits(1, 0, none));
        }
        Office.refuses("fits(1, 2, 0)", -1, x -> x.fits(1, 2, 0));
        Office.refuses("fits(1, 0, 2)", -1, x -> x.fits(1, 0, 2));
        Check.due("without ASKS", Office.of(1).fits(0, 0, 0), -1);
        ExtrasOffice x = Office.of(40);
        Check.due("six ASKS", Check.asks(x, ASK.repeat(6)), 6);
        Check.due("fits(39, 5, 1)", x.fits(39, 5, 1), 1);
        Check.due("fits(40, 5, 1)", x.fits(40, 5, 1), -1);
        Check.due("fits(39, 6, 1)", x.fits(39, 6, 1), -1);
        Check.due("fits(39, 5, 2)", x.fits(39, 5, 2), -1);
    }

    private static void askFirstAndLast() {
        ExtrasOffice x = Office.of(40);
        String middle = "scene 1 at 2 for 3 want 1: home 3;";
        Check.asks(x, "scene 0 at 0 for 1 want 1: anyone;" + middle.repeat(4) + "scene 19 at 1439 for 600 want 8: anyone;");
        int[] first = {0, 0, 1, 1, 0};
        int[] last = {19, 1439, 600, 8, 0};
        for (int what = 0; what <= 4; what++) {
            Check.due("ask(0, " + what + ")", x.ask(0, what), first[what]);
            Check.due("ask(5, " + what + ")", x.ask(5, what), last[what]);
        }
        Check.due("lay()", x.lay(), 9);
        Check.due("as many as the first one WANTS", x.ask(0, 4), 1);
        Check.due("none in another one", x.ask(1, 4), 0);
        Check.due("as many as the last one WANTS", x.ask(5, 4), 8);
    }

    private static void askOfNothing() {
        for (int none : new int[] {-1, 2, 5, Edge.LEAST, Edge.HIGHEST}) {
            Office.refuses("ask(" + none + ", 0)", -1, x -> x.ask(none, 0));
        }
        for (int none : new int[] {-1, 5, Edge.LEAST, Edge.HIGHEST}) {
            Office.refuses("ask(0, " + none + ")", -1, x -> x.ask(0, none));
        }
        Check.due("without ASKS", new ExtrasOffice().ask(0, 0), -1);
        ExtrasOffice x = new ExtrasOffice();
        Check.asks(x, ASK.repeat(6));
        Check.due("ask(6, 0)", x.ask(6, 0), -1);
    }
}
