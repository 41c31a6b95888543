/** Promises 1 to 4: a new object, read, height, peak. */
public final class RiverTest {
    public static void main(String[] args) {
        newObject();
        readings();
        refusals();
        room();
        heights();
        toldAnew();
        peaks();
        Check.finish();
    }

    private static void newObject() {
        FloodTax x = new FloodTax();
        for (int what = 0; what <= 6; what++) {
            Check.due("new: count " + what, x.count(what), 0);
        }
        Check.due("new: status", x.status(), 0);
        Check.due("new: fault", x.fault(), FloodTax.NONE);
        Check.due("new: height", x.height(0, 0), 0);
        Check.due("new: peak", x.peak(1000), 0);
        Check.due("new: sheaves", x.sheaves(0), 0);
        Check.due("new: gain", x.gain(0, 0), 0);
        Check.due("new: of", x.of(0, 0), -1);
        Check.due("new: stands", x.stands(0), -1);
        Check.due("new: led", x.led(0, 0, 0), -1);
        FloodTax other = new FloodTax();
        other.read(0, 7, 0);
        Check.due("another object's reading", x.height(0, 0), 0);
    }

    private static void readings() {
        FloodTax x = new FloodTax();
        Check.due("read, least", x.read(0, 0, 0), 1);
        Check.due("read, most", x.read(119, 400, 1000), 2);
        Check.due("read, again", x.read(119, 400, 1000), 3);
        Check.due("count", x.count(0), 3);
    }

    private static void refusals() {
        FloodTax x = new FloodTax();
        int[][] bad = {{-1, 0, 0}, {120, 0, 0}, {0, -1, 0}, {0, 401, 0}, {0, 0, -1}, {0, 0, 1001},
            {Integer.MIN_VALUE, 0, 0}, {0, Integer.MAX_VALUE, 0}};
        for (int[] b : bad) {
            Check.due("read " + b[0] + " " + b[1] + " " + b[2], x.read(b[0], b[1], b[2]), -1);
            Check.due("status", x.status(), -1);
        }
        Check.due("none was kept", x.count(0), 0);
        Check.due("height day -1", x.height(-1, 0), -1);
        Check.due("height day 120", x.height(120, 0), -1);
        Check.due("height known -1", x.height(0, -1), -1);
        Check.due("height known 1001", x.height(0, 1001), -1);
        Check.due("peak known -1", x.peak(-1), -1);
        Check.due("peak known 1001", x.peak(1001), -1);
        x.read(0, 5, 1000);
        Check.due("height known 1000", x.height(119, 1000), 5);
        Check.due("peak known 999", x.peak(999), 0);
        Check.due("peak known 1000", x.peak(1000), 5);
    }

    private static void room() {
        FloodTax x = new FloodTax();
        for (int i = 1; i <= 300; i++) {
            Check.due("read " + i, x.read(i % 120, i, 0), i);
        }
        Check.due("read 301", x.read(0, 9, 0), -5);
        Check.due("status", x.status(), -5);
        Check.due("a bad number goes ahead of no room", x.read(0, 401, 0), -1);
        Check.due("count", x.count(0), 300);
        Check.due("the last one counts", x.height(60, 0), 300);
        Check.due("the refused one does not", x.height(0, 0), 240);
    }

    private static void heights() {
        FloodTax x = new FloodTax();
        x.read(10, 30, 5);
        x.read(20, 0, 6);
        x.read(119, 400, 7);
        Check.due("ahead of all", x.height(9, 7), 0);
        Check.due("on the day", x.height(10, 7), 30);
        Check.due("carried on", x.height(19, 7), 30);
        Check.due("0 is a height", x.height(20, 7), 0);
        Check.due("0 is carried on", x.height(118, 7), 0);
        Check.due("last day", x.height(119, 7), 400);
        Check.due("known on the day", x.height(10, 5), 30);
        Check.due("not yet known", x.height(10, 4), 0);
        Check.due("0 not yet known", x.height(20, 5), 30);
    }

    private static void toldAnew() {
        FloodTax x = new FloodTax();
        x.read(3, 50, 20);
        x.read(3, 60, 10);
        Check.due("told last, known first", x.height(3, 10), 60);
        Check.due("told last counts, not known last", x.height(3, 20), 60);
        x.read(3, 70, 30);
        Check.due("not known yet", x.height(3, 29), 60);
        Check.due("known", x.height(3, 30), 70);
        Check.due("none by then", x.height(3, 9), 0);
    }

    private static void peaks() {
        FloodTax x = new FloodTax();
        x.read(119, 90, 3);
        x.read(5, 80, 2);
        Check.due("peak 1", x.peak(1), 0);
        Check.due("peak 2", x.peak(2), 80);
        Check.due("the last day's peak", x.peak(3), 90);
        x.read(119, 10, 4);
        Check.due("told anew lower", x.peak(4), 80);
        Check.due("as known ahead of that", x.peak(3), 90);
        x.read(0, 400, 4);
        Check.due("the first day's peak", x.peak(4), 400);
    }
}
