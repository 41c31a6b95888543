/** Promises 23 and 24: count, status. */
public final class CountStatusTest {
    public static void main(String[] args) {
        counts();
        statusOfEachRefusal();
        callsThatLeaveStatus();
        Check.finish();
    }

    private static void counts() {
        FloodTax x = new FloodTax();
        x.read(0, 0, 0);
        x.strip(10, 0, 0);
        x.strip(20, 0, 0);
        x.strip(30, 0, 0);
        x.lose(1);
        x.lose(2);
        Texts.decree(x, "free 1;free 1;free 1;free 1");
        for (int i = 0; i < 5; i++) {
            x.take(0, 0, 0, 0);
        }
        x.feed(0, 0, 0, 0, 0);
        x.end(6);
        int[] want = {1, 3, 2, 4, 5, 6, 60};
        for (int what = 0; what < want.length; what++) {
            Check.due("count " + what, x.count(what), want[what]);
        }
        Check.due("count -1", x.count(-1), -1);
        Check.due("count 7", x.count(7), -1);
        Check.due("count far", x.count(Integer.MIN_VALUE), -1);
        x.draw(0, 3, 61);
        Check.due("widths on the land", x.count(6), 61);
        Check.due("none lost", x.count(2), 0);
    }

    private static FloodTax refused() {
        FloodTax x = new FloodTax();
        x.lose(0);
        Check.due("refused", x.status(), -2);
        return x;
    }

    private static void statusOfEachRefusal() {
        FloodTax x = refused();
        x.read(0, 0, 0);
        Check.due("read", x.status(), 0);
        x.read(-1, 0, 0);
        Check.due("read refused", x.status(), -1);
        x.strip(1, 0, 0);
        Check.due("strip", x.status(), 0);
        x.strip(0, 0, 0);
        Check.due("strip refused", x.status(), -1);
        x.strip(1, 0, 0);
        x.lose(9);
        x.lose(1);
        Check.due("lose", x.status(), 0);
        x.lose(1);
        Check.due("lose refused", x.status(), -3);
        x.draw(0, 2, 4);
        Check.due("draw", x.status(), 0);
        x.draw(0, 2, 4);
        Check.due("draw refused", x.status(), -3);
        x.table(0, 0, 0);
        Check.due("table", x.status(), 0);
        x.table(8, 0, 0);
        Check.due("table refused", x.status(), -1);
        x.take(0, 0, 0, 0);
        Check.due("take", x.status(), 0);
        x.take(0, 9, 0, 0);
        Check.due("take refused", x.status(), -2);
        x.decrees();
        Check.due("decrees", x.status(), 0);
        Texts.decree(x, "x");
        Check.due("decrees refused", x.status(), -6);
    }

    /** What answers NONE has no code, so it leaves the status as it was, well or wrong. */
    private static void callsThatLeaveStatus() {
        FloodTax x = refused();
        x.height(0, 0);
        x.peak(0);
        x.of(0, 0);
        x.stands(0);
        x.wet(0, 0);
        x.harvest(0, 0);
        x.foretold(0, 0);
        x.feed(0, 0, 0, 0, 0);
        x.end(0);
        x.end(1);
        x.fault();
        x.tax(0, 0, 0);
        x.gain(0, 0);
        x.sheaves(0);
        x.led(0, 0, 0);
        x.count(0);
        Check.due("status", x.status(), -2);
        Check.due("status again", x.status(), -2);
    }
}
