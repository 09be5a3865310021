/** A day in an extras office: README.md shows this file and what it prints. */
public final class OneDay {
    public static void main(String[] args) {
        ExtrasOffice office = new ExtrasOffice();
        // age, tall, looks (a bit for each look), home, minutes to be dressed: people 0, 1, 2
        office.person(20, 170, 0b01, 0, 5);
        office.person(40, 180, 0b11, 1, 10);
        office.person(30, 160, 0b10, 0, 5);

        feed(office, "base 100; over 60 each 10 up;");
        System.out.println("agreement " + office.agree());

        feed(office, "scene 3 at 480 for 60 want 1: look 0; scene 4 at 540 for 30 want 1: look 1 and not (age < 18);");
        int asks = office.asks();
        if (asks < 0) {
            System.out.println("fault " + (-2 - asks) + " at byte " + office.place());
            return;
        }
        System.out.println(asks + " asks, " + office.lay() + " people called");

        System.out.println("0 says no: mended by a row of " + office.no(0));
        System.out.println("moved: " + office.moved(0) + ", then " + office.moved(1));
        System.out.println("called: 1 in ask " + office.called(1) + ", 2 in ask " + office.called(2));

        System.out.println("with 2 dressers the last one is sent at " + office.step(2, 12345));
        System.out.println("1 came at " + office.record(1, 0, 1) + ", was sent at " + office.record(1, 0, 4));
        System.out.println("1 is paid " + office.pay(1, 0, 0));
        System.out.println("1 was seen in scene 3: " + office.seen(1, 3, office.count(3)));

        office.tell(2, 3);
        office.away(2, true);
        System.out.println("lacking for a retake of scene 3 at 480: " + office.retake(3, 480) + ", " + office.lacks(0));
    }

    /** Puts a text on the tape: twenty bytes a call, each number's highest byte first; what stands behind it is cut off. */
    static void feed(ExtrasOffice office, String text) {
        int[] n = new int[5];
        int end = office.count(6) + text.length();
        for (int i = 0; i < text.length() || i % 20 != 0; i++) {
            n[i % 20 / 4] = n[i % 20 / 4] << 8 | (i < text.length() ? text.charAt(i) : ' ');
            if (i % 20 == 19) {
                office.feed(n[0], n[1], n[2], n[3], n[4]);
            }
        }
        office.end(end);
    }
}
