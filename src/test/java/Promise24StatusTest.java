/** Promise 24, status: its bounds, sentence by sentence. */
public final class Promise24StatusTest {
    public static void main(String[] args) {
        aheadOfAny();
        read();
        strip();
        lose();
        draw();
        table();
        decrees();
        take();
        latestAlone();
        askedAgain();
        questionsLeaveIt();
        questionsWithoutAnswerLeaveIt();
        feedAndEndLeaveIt();
        Check.finish();
    }

    private static void refused(FloodTax x, long answer, int code) {
        Check.due("the answer", answer, code);
        Check.due("status", x.status(), code);
    }

    private static void taken(FloodTax x, long answer) {
        Check.holds("it is not refused", answer >= 0);
        Check.due("status", x.status(), 0);
    }

    private static void aheadOfAny() {
        Check.sentence("24: 0 ahead of any");
        Check.due("new", new FloodTax().status(), 0);
        FloodTax x = new FloodTax();
        x.height(-1, 0);
        x.end(-1);
        Check.due("questions alone", x.status(), 0);
    }

    private static void read() {
        Check.sentence("24: what read was REFUSED by, or 0");
        FloodTax x = new FloodTax();
        refused(x, x.read(-1, 0, 0), -1);
        taken(x, x.read(0, 0, 0));
        for (int i = 1; i < 300; i++) {
            x.read(0, 0, 0);
        }
        refused(x, x.read(0, 0, 0), -5);
        refused(x, x.read(0, 0, -1), -1);
    }

    private static void strip() {
        Check.sentence("24: what strip was REFUSED by, or 0");
        FloodTax x = new FloodTax();
        refused(x, x.strip(0, 0, 0), -1);
        taken(x, x.strip(1, 0, 0));
        for (int i = 1; i < 24; i++) {
            x.strip(1, 0, 0);
        }
        refused(x, x.strip(1, 0, 0), -5);
        refused(x, x.strip(1, 0, 20), -1);
    }

    private static void lose() {
        Check.sentence("24: what lose was REFUSED by, or 0");
        FloodTax x = Lands.ofWidths(1, 1);
        refused(x, x.lose(3), -2);
        taken(x, x.lose(1));
        refused(x, x.lose(1), -3);
        refused(x, x.lose(-1), -2);
        refused(x, x.lose(0), -3);
    }

    private static void draw() {
        Check.sentence("24: what draw was REFUSED by, or 0");
        FloodTax x = Lands.ofWidths(1, 1);
        refused(x, x.draw(0, 0, 0), -1);
        taken(x, x.draw(0, 1, 0));
        refused(x, x.draw(0, 3, 0), -2);
        taken(x, x.draw(1, 2, 0));
        refused(x, x.draw(0, 2, 0), -3);
        refused(x, x.draw(0, 2, 10001), -1);
    }

    private static void table() {
        Check.sentence("24: what table was REFUSED by, or 0");
        FloodTax x = new FloodTax();
        refused(x, x.table(8, 0, 0), -1);
        taken(x, x.table(7, 0, 0));
        refused(x, x.table(0, 121, 0), -1);
    }

    private static void decrees() {
        Check.sentence("24: what decrees was REFUSED by, or 0");
        FloodTax x = new FloodTax();
        refused(x, Texts.decree(x, "x"), -6);
        taken(x, Texts.decree(x, "free 1"));
        refused(x, Texts.decree(x, "free 10001"), -6);
        taken(x, x.decrees());
    }

    private static void take() {
        Check.sentence("24: what take was REFUSED by, or 0");
        FloodTax x = Lands.ofWidths(1);
        refused(x, x.take(10, 0, 0, 0), -1);
        taken(x, x.take(0, 0, 0, 0));
        refused(x, x.take(0, 1, 0, 0), -2);
        for (int i = 1; i < 200; i++) {
            x.take(0, 0, 0, 0);
        }
        Check.due("status", x.status(), 0);
        refused(x, x.take(0, 0, 0, 0), -5);
        refused(x, x.take(0, 1, 0, 0), -2);
    }

    private static void latestAlone() {
        Check.sentence("24: the latest call of those");
        FloodTax x = Lands.ofWidths(1, 1);
        refused(x, x.lose(0), -3);
        refused(x, x.read(-1, 0, 0), -1);
        refused(x, Texts.decree(x, "x"), -6);
        refused(x, x.take(0, 2, 0, 0), -2);
        taken(x, x.table(0, 0, 0));
    }

    private static void askedAgain() {
        Check.sentence("24: status() itself leaves it");
        FloodTax x = new FloodTax();
        x.lose(0);
        Check.due("status", x.status(), -2);
        Check.due("status again", x.status(), -2);
        Check.due("status once more", x.status(), -2);
    }

    /** Every code, left by every question. */
    private static FloodTax[] refusedByEach() {
        FloodTax[] all = {Lands.bearing(9, 9), Lands.bearing(9, 9), Lands.bearing(9, 9), Lands.full(), Lands.bearing(9, 9), Lands.bearing(9, 9)};
        all[0].read(-1, 0, 0);
        all[1].lose(-1);
        all[2].lose(0);
        all[3].strip(1, 0, 0);
        Texts.decree(all[4], "x");
        all[5].read(0, 0, 0);
        return all;
    }

    private static final int[] CODES = {-1, -2, -3, -5, -6, 0};

    private static void questionsLeaveIt() {
        Check.sentence("24: calls that can't be REFUSED leave it");
        FloodTax[] all = refusedByEach();
        for (int i = 0; i < CODES.length; i++) {
            FloodTax x = all[i];
            long[] answers = {x.height(0, 0), x.peak(0), x.of(0, 0), x.stands(0), x.wet(0, 0), x.harvest(0, 0), x.foretold(0, 0),
                x.tax(0, 0, 0), x.gain(0, 0), x.sheaves(0), x.count(0)};
            for (long answer : answers) {
                Check.holds("an answer", answer >= 0);
            }
            x.led(0, 0, 0);
            x.fault();
            Check.due("status", x.status(), CODES[i]);
        }
    }

    private static void questionsWithoutAnswerLeaveIt() {
        Check.sentence("24: NONE is no code above");
        FloodTax[] all = refusedByEach();
        for (int i = 0; i < CODES.length; i++) {
            FloodTax x = all[i];
            long[] answers = {x.height(120, 0), x.peak(1001), x.of(24, 0), x.stands(25), x.wet(24, 0), x.harvest(24, 0),
                x.foretold(0, 120), x.tax(0, 0, 5), x.gain(10, 0), x.sheaves(-1), x.led(-1, 0, 0), x.count(7)};
            for (long answer : answers) {
                Check.due("NONE", answer, -1);
            }
            Check.due("status", x.status(), CODES[i]);
        }
    }

    private static void feedAndEndLeaveIt() {
        Check.sentence("24: feed and end, which answer NONE, leave it");
        FloodTax[] all = refusedByEach();
        for (int i = 0; i < CODES.length; i++) {
            FloodTax x = all[i];
            for (int n = 0; n < 11; n++) {
                x.feed(0, 0, 0, 0, 0);
            }
            Check.due("the tape is full", x.count(5), 200);
            Check.due("status", x.status(), CODES[i]);
            x.end(201);
            x.end(-1);
            x.end(3);
            Check.due("status", x.status(), CODES[i]);
        }
    }
}
