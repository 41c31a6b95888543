/** Promise 23, count: its bounds, sentence by sentence. */
public final class Promise23CountTest {
    public static void main(String[] args) {
        noneForOthers();
        readings();
        strips();
        lostMarks();
        decrees();
        taken();
        bytes();
        widths();
        Check.finish();
    }

    private static void noneForOthers() {
        Check.sentence("23: NONE for others");
        FloodTax x = new FloodTax();
        Check.bounds("count what", 0, 6, x::count, 0, -1);
        Check.due("status is left", x.status(), 0);
    }

    /** What one thing counts changes no other count. */
    private static void counts(String when, FloodTax x, int... want) {
        for (int what = 0; what < want.length; what++) {
            Check.due(when + ": count(" + what + ")", x.count(what), want[what]);
        }
    }

    private static void readings() {
        Check.sentence("23: 0 READINGS");
        FloodTax x = new FloodTax();
        x.read(5, 6, 7);
        counts("one", x, 1, 0, 0, 0, 0, 0, 0);
        x.read(120, 6, 7);
        Check.due("a refused one", x.count(0), 1);
        for (int i = 0; i < 300; i++) {
            x.read(5, 6, 7);
        }
        Check.due("at most", x.count(0), 300);
    }

    private static void strips() {
        Check.sentence("23: 1 STRIPS");
        FloodTax x = Lands.ofWidths(9);
        counts("one", x, 0, 1, 0, 0, 0, 0, 9);
        x.strip(0, 0, 0);
        Check.due("a refused one", x.count(1), 1);
        for (int i = 0; i < 24; i++) {
            x.strip(1, 0, 0);
        }
        Check.due("at most", x.count(1), 24);
        Check.due("their widths", x.count(6), 32);
    }

    private static void lostMarks() {
        Check.sentence("23: 2 MARKS that are LOST");
        FloodTax x = Lands.ofWidths(1, 1, 1);
        x.lose(2);
        counts("one", x, 0, 3, 1, 0, 0, 0, 3);
        x.lose(2);
        x.lose(3);
        x.lose(4);
        Check.due("refused ones", x.count(2), 1);
        x.draw(1, 3, 2);
        Check.due("drawn again", x.count(2), 0);
        x = Lands.full();
        for (int mark = 0; mark <= 24; mark++) {
            x.lose(mark);
        }
        Check.due("at most: all but the rocks", x.count(2), 23);
    }

    private static void decrees() {
        Check.sentence("23: 3 DECREES");
        FloodTax x = new FloodTax();
        Texts.decree(x, "free 1");
        counts("one", x, 0, 0, 0, 1, 0, 0, 0);
        Texts.decree(x, "free 1;free 1;x");
        Check.due("refused ones", x.count(3), 1);
        Texts.decree(x, "free 1;".repeat(19) + "free 1");
        Check.due("at most", x.count(3), 20);
        x.decrees();
        Check.due("none", x.count(3), 0);
    }

    private static void taken() {
        Check.sentence("23: 4 TAKEN");
        FloodTax x = Lands.ofWidths(1);
        x.take(0, 0, 0, 0);
        counts("one", x, 0, 1, 0, 0, 1, 0, 1);
        x.take(10, 0, 0, 0);
        x.take(0, 1, 0, 0);
        Check.due("refused ones", x.count(4), 1);
        for (int i = 0; i < 200; i++) {
            x.take(0, 0, 0, 0);
        }
        Check.due("at most", x.count(4), 200);
    }

    private static void bytes() {
        Check.sentence("23: 5 bytes of the TAPE");
        FloodTax x = new FloodTax();
        x.feed(0, 0, 0, 0, 0);
        counts("twenty", x, 0, 0, 0, 0, 0, 20, 0);
        x.end(1);
        Check.due("one", x.count(5), 1);
        x.end(0);
        for (int i = 0; i < 11; i++) {
            x.feed(0, 0, 0, 0, 0);
        }
        Check.due("at most", x.count(5), 200);
        x.decrees();
        Check.due("none", x.count(5), 0);
    }

    private static void widths() {
        Check.sentence("23: 6 all WIDTHS on the land");
        FloodTax x = Lands.ofWidths(10, 20, 30);
        Check.due("of the register at first", x.count(6), 60);
        x.lose(1);
        Check.due("while a mark is lost", x.count(6), 60);
        x.draw(0, 2, 31);
        Check.due("drawn", x.count(6), 61);
        x.draw(2, 3, 0);
        Check.due("of no ropes", x.count(6), 31);
        x = Lands.full();
        for (int i = 0; i < 24; i++) {
            x.draw(i, i + 1, 10000);
        }
        Check.due("at most", x.count(6), 240000);
    }
}
