/** Edges of the TAPE and its TOKENS and of promises 4 and 5: feed, end. */
final class EdgeTape {
    private static final String ASK = "scene 1 at 2 for 3 want 4: anyone;";

    private EdgeTape() {
    }

    static void all() {
        Edge.test(Edge.TERMS, "The TAPE has at most 1,000 bytes.", EdgeTape::thousandBytes);
        Edge.test(Edge.TERMS, "The TAPE has at most 1,000 bytes.", EdgeTape::thousandBytesAreRead);
        Edge.test(Edge.TERMS, "TOKENS, blanks (32, 10) between where one likes", EdgeTape::blanksAnywhere);
        Edge.test(Edge.TERMS, "TOKENS, blanks (32, 10) between where one likes", EdgeTape::noBlanksAtAll);
        Edge.test(Edge.TERMS, "TOKENS, blanks (32, 10) between where one likes", EdgeTape::otherBytesAreNoBlanks);
        Edge.test(Edge.TERMS, "WORDS (small letters, as many as stand together)", EdgeTape::lettersTogether);
        Edge.test(Edge.TERMS, "NUMBERS (1 to 5 digits)", EdgeTape::oneToFiveDigits);
        Edge.test(Edge.TERMS, "SIGNS ( ) : ; < and >", EdgeTape::otherSigns);
        Edge.test(4, "Twenty bytes come behind the TAPE, of each number the highest first: how many it has",
                EdgeTape::highestFirst);
        Edge.test(4, "Twenty bytes come behind the TAPE, of each number the highest first: how many it has",
                EdgeTape::everyByteCounts);
        Edge.test(4, "NONE if these would be more than 1,000.", EdgeTape::moreThanThousand);
        Edge.test(5, "The TAPE has its first n bytes alone: n", EdgeTape::firstBytesAlone);
        Edge.test(5, "NONE if it has less, or n is below 0.", EdgeTape::endBeyond);
    }

    /** With room for twenty bytes more. */
    private static ExtrasOffice almostFullTape() {
        ExtrasOffice x = Office.of(1);
        Check.feedWithBlanks(x, ASK);
        for (int n = 2; n < 49; n++) {
            x.feed(0x20202020, 0x20202020, 0x20202020, 0x20202020, 0x20202020);
        }
        return x;
    }

    private static void thousandBytes() {
        ExtrasOffice x = new ExtrasOffice();
        Check.due("count(6) of the empty TAPE", x.count(6), 0);
        for (int n = 1; n <= 50; n++) {
            Check.due("feed " + n, x.feed(0, 0, 0, 0, 0), 20 * n);
            Check.due("count(6)", x.count(6), 20 * n);
        }
        Check.due("end(1000)", x.end(1000), 1000);
        Check.due("feed of more", x.feed(0, 0, 0, 0, 0), -1);
        Check.due("count(6)", x.count(6), 1000);
    }

    /** Texts of a thousand bytes are read to their last one. */
    private static void thousandBytesAreRead() {
        ExtrasOffice x = new ExtrasOffice();
        Check.due("an ASK that ends with byte 1000", Check.asks(x, " ".repeat(1000 - ASK.length()) + ASK), 1);
        Check.due("an ASK without its last byte", Check.asks(x, " ".repeat(1001 - ASK.length())
                + ASK.substring(0, ASK.length() - 1)), -3);
        Check.due("place()", x.place(), 1000);
        Check.due("a sign too many", Check.asks(x, " ".repeat(999 - ASK.length()) + ASK + ";"), -3);
        Check.due("place()", x.place(), 999);
        Check.due("an AGREEMENT that ends with byte 1000", Check.agree(x, "\n".repeat(993) + "base 1;"), 0);
        Check.due("blanks alone", Check.agree(x, "\n".repeat(1000)), 1);
    }

    private static void blanksAnywhere() {
        ExtrasOffice x = new ExtrasOffice();
        String text = ASK.replace(":", " : ").replace(";", " ; ").replace(" ", " \n\n  ");
        Check.due("blanks between all", Check.asks(x, "\n \n" + text + " \n"), 1);
        Check.due("lines alone", Check.asks(x, ASK.replace(" ", "\n")), 1);
        Check.due("two ASKS with blanks", Check.asks(x, ASK + "\n \n" + ASK), 2);
        Check.due("an AGREEMENT", Check.agree(x, "over\n1\neach\n2\nup\n;\nbase 1 ; "), 0);
        Check.asksFault("sce ne 1", 1, 0);
        Check.asksFault("scene 1 at 2 for 3 want 4: look 1 2;", 1, 34);
        Check.agreeFault("base 1 2;", 1, 7);
    }

    private static void noBlanksAtAll() {
        ExtrasOffice x = new ExtrasOffice();
        x.person(30, 170, 2, 1, 5);
        Check.due("no blanks", Check.asks(x, "scene1at2for3want4:(look1and(home1))or(age<5);scene1at2for3want4:anyone;"), 2);
        Check.due("fits", x.fits(0, 0, 0), 1);
        Check.due("no blanks", Check.agree(x, "over1each2up;base3;before4each5down;"), 0);
    }

    private static void otherBytesAreNoBlanks() {
        for (int sign : new int[] {0, 9, 11, 12, 13, 31, 33, 95, 127, 128, 138, 160, 255}) {
            String put = "scene" + (char) sign + "1 at 2 for 3 want 4: anyone;";
            Check.asksFault(put, 1, 5);
            Check.asksFault((char) sign + ASK, 1, 0);
            Check.asksFault(ASK + (char) sign, 1, ASK.length());
            Check.agreeFault("base 1" + (char) sign + ";", 1, 6);
            Check.agreeFault("base 1;" + (char) sign, 1, 7);
        }
    }

    private static void lettersTogether() {
        Check.asksFault("scen", 1, 0);
        Check.asksFault("sceneat", 1, 0);
        Check.asksFault("scene 1 ata 2", 1, 8);
        Check.asksFault("scene 1 aat 2", 1, 8);
        Check.asksFault("scene 1 atz 2", 1, 8);
        Check.asksFault("scene 1 zat 2", 1, 8);
        Check.asksFault("scene 1 at`2", 1, 10);
        Check.asksFault("scene 1 at{2", 1, 10);
        Check.asksFault("scene 1 At 2", 1, 8);
        Check.asksFault("scene 1 aT 2", 1, 8);
        Check.asksFault("scene 1 at 2 for 3 want 4: anyoneor anyone;", 1, 27);
        Check.asksFault("scene 1 at 2 for 3 want 4: notanyone;", 1, 27);
        Check.asksFault("scene 1 at 2 for 3 want 4: not not" + "x".repeat(900), 1, 31);
        Check.agreeFault("baseup", 1, 0);
        eachLetterCounts("scene 1 at 2 for 3 want 4 : look 1 or home 1 and seen 1 and not anyone and age < 1 or tall > 1 ;",
                Check::asksFault);
        eachLetterCounts("base 1 ; over 1 each 1 up ; before 1 each 1 down ; after 1 each 1 down ;", Check::agreeFault);
        Check.agreeFault("over 1 each 2 upup;", 1, 14);
    }

    interface Fault {
        void due(String text, int kind, int place);
    }

    /** A WORD of which one letter is another one, is missing, or stands twice, is the FAULT. */
    private static void eachLetterCounts(String text, Fault fault) {
        int start = 0;
        for (int at = 0; at < text.length(); at++) {
            char letter = text.charAt(at);
            if (letter == ' ') {
                start = at + 1;
            } else if (letter >= 'a' && letter <= 'z') {
                fault.due(text.substring(0, at) + 'x' + text.substring(at + 1), 1, start);
                fault.due(text.substring(0, at) + letter + text.substring(at), 1, start);
                fault.due(text.substring(0, at) + text.substring(at + 1), 1, start);
            }
        }
    }

    private static void oneToFiveDigits() {
        ExtrasOffice x = new ExtrasOffice();
        Check.due("one digit each", Check.asks(x, "scene 0 at 0 for 1 want 1: look 0;"), 1);
        Check.due("five digits each", Check.asks(x, "scene 00019 at 01439 for 00600 want 00008: look 00015;"), 1);
        int[] due = {19, 1439, 600, 8, 0};
        for (int what = 0; what <= 4; what++) {
            Check.due("ask(0, " + what + ")", x.ask(0, what), due[what]);
        }
        Check.asksFault("scene 000001 at", 1, 6);
        Check.asksFault("scene 1 at 000000 for", 1, 11);
        Check.asksFault("scene 1 at 2 for 000001 want", 1, 17);
        Check.asksFault("scene 1 at 2 for 3 want 000001:", 1, 24);
        Check.asksFault("scene 1 at 2 for 3 want 4: tall > 000000;", 1, 34);
        Check.asksFault("scene " + "1".repeat(900), 1, 6);
        Check.asksFault("scene 4294967297 at", 1, 6);
        Check.asksFault("scene ; at", 1, 6);
        Check.asksFault("scene / at", 1, 6);
        Check.due("five digits", Check.agree(x, "base 00000; base 99999; base 0; base 9;"), 0);
        Check.agreeFault("base 000000;", 1, 5);
        Check.agreeFault("base /;", 1, 5);
    }

    private static void otherSigns() {
        ExtrasOffice x = new ExtrasOffice();
        Check.due("all SIGNS", Check.asks(x, "scene 1 at 2 for 3 want 4:(age<5)or tall>6;"), 1);
        for (char sign : new char[] {'\'', '*', '9', '=', '?', '@', '[', ',', '-', '.'}) {
            Check.asksFault("scene 1 at 2 for 3 want 4: anyone " + sign, 1, 34);
        }
        // each SIGN stands alone: of two together the second is the FAULT
        Check.asksFault("scene 1 at 2 for 3 want 4:: anyone;", 1, 26);
        Check.asksFault("scene 1 at 2 for 3 want 4: age << 5;", 1, 32);
        Check.asksFault("scene 1 at 2 for 3 want 4: age <> 5;", 1, 32);
        Check.asksFault("scene 1 at 2 for 3 want 4: anyone;;", 1, 34);
        Check.asksFault("scene 1 at 2 for 3 want 4; anyone;", 1, 25);
        Check.asksFault("scene 1 at 2 for 3 want 4: (anyone(;", 1, 34);
        Check.asksFault("scene 1 at 2 for 3 want 4: )anyone);", 1, 27);
    }

    private static void highestFirst() {
        ExtrasOffice x = new ExtrasOffice();
        // "over" "1234" "5eac" "h8up" ";   "
        Check.due("feed", x.feed(0x6f766572, 0x31323334, 0x35656163, 0x68387570, 0x3b202020), 20);
        Check.due("agree()", x.agree(), 0);
        Check.due("feed", x.feed(0x20202020, 0x20202020, 0x20202020, 0x20202020, 0x20626173), 20);
        Check.due("feed behind", x.feed(0x65202020, 0x31202020, 0x20202020, 0x20202020, 0x2020203b), 40);
        Check.due("agree()", x.agree(), 1);
    }

    /** A byte of no text at each of the twenty places is the FAULT there. */
    private static void everyByteCounts() {
        for (int at = 0; at < 20; at++) {
            for (int bad : new int[] {0x80, 0xff, 0}) {
                int[] n = {0x20202020, 0x20202020, 0x20202020, 0x20202020, 0x20202020};
                int shift = 24 - at % 4 * 8;
                n[at / 4] = n[at / 4] & ~(255 << shift) | bad << shift;
                ExtrasOffice x = new ExtrasOffice();
                Check.due("feed", x.feed(n[0], n[1], n[2], n[3], n[4]), 20);
                Check.due("asks() with a bad byte at " + at, x.asks(), -3);
                Check.due("place()", x.place(), at);
            }
        }
    }

    private static void moreThanThousand() {
        ExtrasOffice x = almostFullTape();
        Check.due("the last twenty", x.feed(0, 0, 0, 0, 0), 1000);
        Check.due("twenty more", x.feed(0, 0, 0, 0, 0), -1);
        Check.due("end(981)", x.end(981), 981);
        Check.due("to 1001", x.feed(0, 0, 0, 0, 0), -1);
        Check.due("count(6)", x.count(6), 981);
        Check.due("end(980)", x.end(980), 980);
        Check.due("to 1000", x.feed(0, 0, 0, 0, 0), 1000);
        Office.refusesIn(() -> {
            ExtrasOffice y = almostFullTape();
            y.feed(0x20202020, 0x20202020, 0x20202020, 0x20202020, 0x20202020);
            return y;
        }, "feed of 1020", -1, y -> y.feed(0, 0, 0, 0, 0));
        Office.refusesIn(() -> {
            ExtrasOffice y = almostFullTape();
            y.feed(0x20202020, 0x20202020, 0x20202020, 0x20202020, 0x20202020);
            y.end(981);
            return y;
        }, "feed of 1001", -1, y -> y.feed(0, 0, 0, 0, 0));
    }

    private static void firstBytesAlone() {
        ExtrasOffice x = new ExtrasOffice();
        Check.due("end(0) of nothing", x.end(0), 0);
        Check.feed(x, ASK + "x");
        Check.due("all of it", x.end(ASK.length() + 1), ASK.length() + 1);
        Check.due("one less", x.end(ASK.length()), ASK.length());
        Check.due("count(6)", x.count(6), ASK.length());
        Check.due("the first bytes are read", x.asks(), 1);
        Check.feed(x, "base 1;base");
        Check.due("end(7)", x.end(7), 7);
        Check.feed(x, "base 2;");
        Check.due("bytes come behind the first ones", x.count(6), 14);
        Check.due("agree()", x.agree(), 0);
        Check.feed(x, "x");
        Check.due("end(0)", x.end(0), 0);
        Check.due("count(6)", x.count(6), 0);
        Check.due("nothing is left", x.agree(), 1);
        ExtrasOffice full = almostFullTape();
        full.feed(0, 0, 0, 0, 0);
        Check.due("end(1000) of a full TAPE", full.end(1000), 1000);
        Check.due("end(999)", full.end(999), 999);
        Check.due("end(1)", full.end(1), 1);
        Check.due("count(6)", full.count(6), 1);
    }

    private static void endBeyond() {
        Check.due("end(1) of nothing", new ExtrasOffice().end(1), -1);
        ExtrasOffice x = Office.busy();
        int size = x.count(6);
        for (int n : new int[] {-1, size + 1, 1000, 1001, Edge.LEAST, Edge.HIGHEST}) {
            Office.refuses("end(" + n + ")", -1, y -> y.end(n));
        }
        Check.due("end(5)", x.end(5), 5);
        Check.due("what was cut off is no more", x.end(6), -1);
        Check.due("count(6)", x.count(6), 5);
        ExtrasOffice full = almostFullTape();
        full.feed(0, 0, 0, 0, 0);
        Check.due("end(1001) of a full TAPE", full.end(1001), -1);
    }
}
