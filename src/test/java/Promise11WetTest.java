/** Promise 11, wet: its bounds, sentence by sentence. */
public final class Promise11WetTest {
    public static void main(String[] args) {
        strips();
        knownDays();
        notBelowItsLevel();
        leastAndGreatestLevel();
        firstAndLastDay();
        noneAndAll();
        asKnown();
        Check.finish();
    }

    private static void strips() {
        Check.sentence("11: of a STRIP; NONE");
        FloodTax x = Lands.ofWidths(1, 1, 1);
        Check.bounds("wet strip", 0, 2, strip -> x.wet(strip, 0), 120, -1);
        FloodTax full = Lands.full();
        Check.bounds("wet strip, of 24", 0, 23, strip -> full.wet(strip, 0), 120, -1);
        Check.due("without strips", new FloodTax().wet(0, 0), -1);
    }

    private static void knownDays() {
        Check.sentence("11: as known on a DAY, 0 .. 1000; NONE");
        FloodTax x = Lands.ofWidths(1);
        Check.bounds("wet known", 0, 1000, known -> x.wet(0, known), 120, -1);
        Check.due("both wrong", x.wet(1, 1001), -1);
        Check.due("status is left", x.status(), 0);
    }

    private static void notBelowItsLevel() {
        Check.sentence("III: WET, if HEIGHT is not below its LEVEL");
        for (int height = 49; height <= 51; height++) {
            FloodTax x = new FloodTax();
            x.strip(1, 50, 0);
            x.read(100, height, 0);
            Check.due("height " + height + ", level 50", x.wet(0, 0), height < 50 ? 0 : 20);
        }
    }

    private static void leastAndGreatestLevel() {
        Check.sentence("II: LEVEL 0 .. 400");
        FloodTax x = new FloodTax();
        x.strip(1, 0, 0);
        x.strip(1, 1, 0);
        x.strip(1, 399, 0);
        x.strip(1, 400, 0);
        Check.due("level 0, height 0", x.wet(0, 0), 120);
        Check.due("level 1, height 0", x.wet(1, 0), 0);
        x.read(0, 399, 0);
        Check.due("level 399, height 399", x.wet(2, 0), 120);
        Check.due("level 400, height 399", x.wet(3, 0), 0);
        x.read(0, 400, 0);
        Check.due("level 400, height 400", x.wet(3, 0), 120);
    }

    private static void firstAndLastDay() {
        Check.sentence("III: DAYS 0 .. 119");
        Check.due("day 0 alone", Lands.wetFor(1).wet(0, 0), 1);
        FloodTax x = new FloodTax();
        x.strip(1, 10, 0);
        x.read(119, 10, 0);
        Check.due("day 119 alone", x.wet(0, 0), 1);
        x.read(118, 10, 0);
        Check.due("days 118 and 119", x.wet(0, 0), 2);
        x.read(0, 10, 0);
        x.read(1, 9, 0);
        Check.due("day 0 too", x.wet(0, 0), 3);
    }

    private static void noneAndAll() {
        Check.sentence("11: none at all, and all");
        for (int days : new int[] {0, 1, 2, 118, 119, 120}) {
            Check.due("so many", Lands.wetFor(days).wet(0, 0), days);
        }
    }

    private static void asKnown() {
        Check.sentence("11: WET DAYS as known on a DAY");
        FloodTax x = new FloodTax();
        x.strip(1, 10, 0);
        x.read(20, 10, 50);
        x.read(30, 9, 1000);
        Check.due("49", x.wet(0, 49), 0);
        Check.due("50", x.wet(0, 50), 100);
        Check.due("51", x.wet(0, 51), 100);
        Check.due("999", x.wet(0, 999), 100);
        Check.due("1000", x.wet(0, 1000), 10);
    }
}
