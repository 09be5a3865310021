/** Offices that were made alike, so that a call that is refused can be shown to change nothing. */
final class Office {
    static final String NEXT_ASKS = "scene 7 at 1200 for 5 want 3: anyone;";

    private static final int[] SCENES = {2, 3, 4, 5, 7, 19};

    private Office() {
    }

    interface Maker {
        ExtrasOffice make();
    }

    interface Call {
        long on(ExtrasOffice x);
    }

    /** People all alike. */
    static ExtrasOffice of(int people) {
        ExtrasOffice x = new ExtrasOffice();
        for (int p = 0; p < people; p++) {
            x.person(30, 170, 0, 0, 5);
        }
        return x;
    }

    /**
     * An office on DAY 1 of which everything shows something: 1 and 2 are CALLED, 0 said no and was mended by 1, 3 is
     * AWAY; 0 and 1 have RECORDS of DAY 0; one LACKS; there is a place of a FAULT; text waits on the TAPE.
     */
    static ExtrasOffice busy() {
        ExtrasOffice x = new ExtrasOffice();
        x.person(30, 170, 1, 0, 5);
        x.person(40, 180, 3, 1, 10);
        x.person(20, 160, 2, 0, 5);
        x.person(50, 190, 7, 3, 7);
        x.away(3, true);
        Check.agree(x, "base 100; over 0 each 3 up;");
        Check.asks(x, "scene 2 at 60 for 30 want 2: look 0;");
        x.lay();
        x.step(1, 0);
        x.tell(1, 5);
        x.tell(2, 19);
        x.away(1, true);
        x.retake(2, 0);
        x.away(1, false);
        Check.asks(x, "scene 3 at 900 for 20 want 1: look 0; scene 4 at 900 for 30 want 1: look 1;");
        x.lay();
        x.no(0);
        x.away(0, false);
        Check.agree(x, "base x");
        Check.feedWithBlanks(x, NEXT_ASKS);
        return x;
    }

    static ExtrasOffice fresh() {
        return new ExtrasOffice();
    }

    /** The call answers what is due of a refused one, and all is as it would be without it, then and a DAY later. */
    static void refuses(String name, long due, Call call) {
        refusesIn(Office::busy, name, due, call);
    }

    static void refusesIn(Maker maker, String name, long due, Call call) {
        ExtrasOffice with = maker.make();
        ExtrasOffice without = maker.make();
        Check.due(name, call.on(with), due);
        Check.due("place() behind the refused " + name, with.place(), without.place());
        same("behind the refused " + name, with, without);
        goOn(with);
        goOn(without);
        same("a day behind the refused " + name, with, without);
    }

    /** For offices with so many calls behind them that there are few left: what is shown at once. */
    static void refusesAtLast(Maker maker, String name, long due, Call call) {
        ExtrasOffice with = maker.make();
        ExtrasOffice without = maker.make();
        Check.due(name, call.on(with), due);
        Check.due("place() behind the refused " + name, with.place(), without.place());
        same("behind the refused " + name, with, without);
    }

    /** A text with a FAULT: the TAPE is empty then, place() tells the place, and all else stays. */
    static void faultLeavesAll(String text, Call reader, int due, int place) {
        ExtrasOffice with = busy();
        ExtrasOffice without = busy();
        with.end(0);
        without.end(0);
        Check.feed(with, text);
        String name = "reading \"" + text + "\"";
        Check.due(name, reader.on(with), due);
        Check.due("place() behind " + name, with.place(), place);
        Check.due("count(6) behind " + name, with.count(6), 0);
        same("behind " + name, with, without);
        Check.feedWithBlanks(with, NEXT_ASKS);
        Check.feedWithBlanks(without, NEXT_ASKS);
        goOn(with);
        goOn(without);
        same("a day behind " + name, with, without);
    }

    static void same(String when, ExtrasOffice one, ExtrasOffice other) {
        String shown = shown(one);
        String due = shown(other);
        if (!shown.equals(due)) {
            System.out.println("shown " + when + ": " + shown + "\nnot as due: " + due);
        }
        Check.due("whether all is shown as without it " + when, shown.equals(due), true);
    }

    private static void goOn(ExtrasOffice x) {
        x.asks();
        x.lay();
        x.step(2, 9);
    }

    /** Some 160 answers; place() is not among them. */
    static String shown(ExtrasOffice x) {
        StringBuilder all = new StringBuilder();
        for (int what = 0; what <= 7; what++) {
            all.append(x.count(what)).append(' ');
        }
        int people = x.count(0);
        for (int p = 0; p < people; p = p < 2 ? p + 1 : Math.max(p + 1, people - 1)) {
            all.append("\nperson ").append(p).append(": ");
            showPerson(x, p, all);
        }
        for (int a = 0; a < x.count(1); a++) {
            all.append("\nask ").append(a).append(": ");
            for (int what = 0; what <= 4; what++) {
                all.append(x.ask(a, what)).append(' ');
            }
        }
        all.append("\nrows: ");
        for (int i = 0; i < 3; i++) {
            all.append(x.moved(i)).append(' ').append(x.lacks(i)).append(' ');
        }
        for (int home = 0; home <= 3; home++) {
            all.append(x.buses(home, 1)).append(' ');
        }
        return all.toString();
    }

    private static void showPerson(ExtrasOffice x, int p, StringBuilder all) {
        for (int what = 0; what <= 7; what++) {
            all.append(x.about(p, what)).append(' ');
        }
        all.append(x.called(p)).append(' ');
        for (int a = 0; a < 2; a++) {
            all.append(x.fits(p, a, 0)).append(' ').append(x.fits(p, a, 1)).append(' ');
        }
        int day = x.count(4);
        for (int what = 0; what <= 6; what++) {
            all.append(x.record(p, 0, what)).append(' ').append(x.record(p, day - 1, what)).append(' ');
        }
        all.append(x.pay(p, 0, day)).append(' ');
        int facts = x.count(3);
        for (int scene : SCENES) {
            all.append(Check.seen(x, p, scene, facts)).append(' ');
        }
    }
}
