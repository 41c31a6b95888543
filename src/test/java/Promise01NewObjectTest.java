/** Promise 1, a new object: what there is none of, sentence by sentence. */
public final class Promise01NewObjectTest {
    public static void main(String[] args) {
        noReadings();
        noStrips();
        noMarksWithoutStrips();
        noDecrees();
        nothingTaken();
        allRowsAre0();
        noTape();
        neverRefused();
        noneIsMinus1();
        eachObjectAlone();
        Check.finish();
    }

    private static void noReadings() {
        Check.sentence("1: no READINGS");
        FloodTax x = new FloodTax();
        Check.due("count(0)", x.count(0), 0);
        Check.due("height(0, 0)", x.height(0, 0), 0);
        Check.due("height(119, 1000)", x.height(119, 1000), 0);
        Check.due("peak(0)", x.peak(0), 0);
        Check.due("peak(1000)", x.peak(1000), 0);
        Check.due("the first read", x.read(0, 0, 0), 1);
    }

    private static void noStrips() {
        Check.sentence("1: no STRIPS");
        FloodTax x = new FloodTax();
        Check.due("count(1)", x.count(1), 0);
        Check.due("count(6)", x.count(6), 0);
        for (int what = 0; what < 4; what++) {
            Check.due("of(0, " + what + ")", x.of(0, what), -1);
        }
        Check.due("wet", x.wet(0, 0), -1);
        Check.due("harvest", x.harvest(0, 0), -1);
        Check.due("foretold", x.foretold(0, 0), -1);
        Check.due("tax", x.tax(0, 0, 0), -1);
        Check.due("take", x.take(0, 0, 0, 0), -2);
        Check.due("sheaves", x.sheaves(0), 0);
        Check.due("led", x.led(0, 0, 0), -1);
        Check.due("the first strip", x.strip(1, 0, 0), 0);
    }

    private static void noMarksWithoutStrips() {
        Check.sentence("II: without STRIPS there are no MARKS");
        FloodTax x = new FloodTax();
        Check.due("count(2)", x.count(2), 0);
        Check.due("stands(0)", x.stands(0), -1);
        Check.due("stands(1)", x.stands(1), -1);
        Check.due("lose(0)", x.lose(0), -2);
        Check.due("draw(0, 1, 1)", x.draw(0, 1, 1), -2);
        x.strip(1, 0, 0);
        Check.due("stands(0), with a strip", x.stands(0), 1);
        Check.due("stands(1), with a strip", x.stands(1), 1);
        Check.due("stands(2), with a strip", x.stands(2), -1);
    }

    private static void noDecrees() {
        Check.sentence("1: no DECREES");
        FloodTax x = Lands.bearing(100);
        Check.due("count(3)", x.count(3), 0);
        Check.due("fault()", x.fault(), -1);
        int[] want = {0, 0, 0, 0, 100};
        for (int what = 0; what < want.length; what++) {
            Check.due("tax(0, 0, " + what + ")", x.tax(0, 0, what), want[what]);
        }
    }

    private static void nothingTaken() {
        Check.sentence("1: nothing TAKEN");
        FloodTax x = Lands.bearing(100);
        Check.due("count(4)", x.count(4), 0);
        for (int officer = 0; officer < 10; officer++) {
            Check.due("gain(" + officer + ", 1000)", x.gain(officer, 1000), 0);
        }
        Check.due("the first take", x.take(0, 0, 0, 0), 1);
    }

    /** Row 0 bears 5 from no wet days on; a row behind it counts in its stead only if it is 0, 0. */
    private static void allRowsAre0() {
        Check.sentence("III: all rows 0, 0 at first");
        Check.due("no row told", Lands.ofWidths(1).harvest(0, 0), 0);
        for (int row = 1; row < 8; row++) {
            FloodTax x = Lands.wetFor(0);
            x.table(0, 0, 5);
            for (int other = 1; other < 8; other++) {
                if (other != row) {
                    x.table(other, 120, 9);
                }
            }
            Check.due("row " + row, x.harvest(0, 0), 0);
            x.table(row, 120, 9);
            Check.due("row 0 alone", x.harvest(0, 0), 5);
        }
    }

    private static void noTape() {
        Check.sentence("1: an empty TAPE");
        FloodTax x = new FloodTax();
        Check.due("count(5)", x.count(5), 0);
        Check.due("end(0)", x.end(0), 0);
        Check.due("end(1)", x.end(1), -1);
        Check.due("the first feed", x.feed(0, 0, 0, 0, 0), 20);
    }

    private static void neverRefused() {
        Check.sentence("24: 0 ahead of any");
        Check.due("status()", new FloodTax().status(), 0);
    }

    private static void noneIsMinus1() {
        Check.sentence("NONE = -1");
        Check.due("NONE", FloodTax.NONE, -1);
    }

    private static void eachObjectAlone() {
        Check.sentence("1: what another object was told is not there");
        FloodTax other = Lands.bearing(10, 20);
        other.read(0, 400, 0);
        other.lose(1);
        other.take(0, 0, 9, 0);
        Texts.decree(other, "free 1");
        Texts.decree(other, "x");
        other.feed(0, 0, 0, 0, 0);
        FloodTax x = new FloodTax();
        for (int what = 0; what <= 6; what++) {
            Check.due("count(" + what + ")", x.count(what), 0);
        }
        Check.due("peak", x.peak(1000), 0);
        Check.due("fault", x.fault(), -1);
        Check.due("status", x.status(), 0);
        x.strip(1, 0, 0);
        Check.due("harvest", x.harvest(0, 0), 0);
    }
}
