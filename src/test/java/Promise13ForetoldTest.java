/** Promise 13, foretold: its bounds, sentence by sentence. */
public final class Promise13ForetoldTest {
    public static void main(String[] args) {
        strips();
        days();
        byWhatIsKnownOnIt();
        daysBehindCountForNothing();
        heightOfTheLastOne();
        firstDay();
        lastDay();
        widthOnTheLand();
        Check.finish();
    }

    /** A strip at level 10 on which what is foretold on a day tells the wet days: row by row, to the day. */
    private static int wetForetold(FloodTax x, int day) {
        int least = 0;
        int most = 120;
        for (int step = 0; step < 7 && least < most; step++) {
            int middle = (least + most + 1) / 2;
            x.table(7, middle, 1);
            if (x.foretold(0, day) > 0) {
                least = middle;
            } else {
                most = middle - 1;
            }
        }
        return least;
    }

    private static FloodTax told(int... dayHeightKnown) {
        FloodTax x = new FloodTax();
        x.strip(1, 10, 0);
        for (int i = 0; i < dayHeightKnown.length; i += 3) {
            x.read(dayHeightKnown[i], dayHeightKnown[i + 1], dayHeightKnown[i + 2]);
        }
        return x;
    }

    private static void strips() {
        Check.sentence("13: of a STRIP; NONE");
        FloodTax x = Lands.bearing(6, 6, 6);
        Check.bounds("foretold strip", 0, 2, strip -> x.foretold(strip, 0), 6, -1);
        FloodTax full = Lands.full();
        full.table(7, 0, 9);
        Check.bounds("foretold strip, of 24", 0, 23, strip -> full.foretold(strip, 0), 9, -1);
        Check.due("without strips", new FloodTax().foretold(0, 0), -1);
    }

    private static void days() {
        Check.sentence("13: on a DAY (0 .. 119); NONE");
        FloodTax x = Lands.bearing(6);
        Check.bounds("foretold day", 0, 119, day -> x.foretold(0, day), 6, -1);
        Check.due("a day on which things are known, but none of these", x.foretold(0, 1000), -1);
        Check.due("both wrong", x.foretold(1, 120), -1);
        Check.due("status is left", x.status(), 0);
    }

    private static void byWhatIsKnownOnIt() {
        Check.sentence("13: by what is known on it");
        FloodTax x = told(3, 10, 50);
        Check.due("49", wetForetold(x, 49), 0);
        Check.due("50", wetForetold(x, 50), 117);
        Check.due("51", wetForetold(x, 51), 117);
        x = told(3, 10, 0, 3, 9, 60);
        Check.due("told anew, not known on 59", wetForetold(x, 59), 117);
        Check.due("told anew, known on 60", wetForetold(x, 60), 0);
    }

    private static void daysBehindCountForNothing() {
        Check.sentence("III: of DAYS behind d none counts as known");
        FloodTax x = told(50, 10, 0);
        Check.due("49", wetForetold(x, 49), 0);
        Check.due("50", wetForetold(x, 50), 70);
        Check.due("51", wetForetold(x, 51), 70);
        Check.due("but it is known", x.wet(0, 0), 70);
    }

    private static void heightOfTheLastOne() {
        Check.sentence("III: they have the HEIGHT of the last one");
        FloodTax x = told(20, 10, 0, 30, 9, 0, 40, 10, 0);
        Check.due("29: goes on wet", wetForetold(x, 29), 100);
        Check.due("30: goes on dry", wetForetold(x, 30), 10);
        Check.due("39: goes on dry, by the day ahead", wetForetold(x, 39), 10);
        Check.due("40: goes on wet", wetForetold(x, 40), 90);
    }

    private static void firstDay() {
        Check.sentence("13: on DAY 0");
        Check.due("known on 0", wetForetold(told(0, 10, 0), 0), 120);
        Check.due("known on 1", wetForetold(told(0, 10, 1), 0), 0);
        Check.due("of day 1", wetForetold(told(1, 10, 0), 0), 0);
        Check.due("without any", wetForetold(told(), 0), 0);
    }

    private static void lastDay() {
        Check.sentence("13: on DAY 119");
        Check.due("118, of 119", wetForetold(told(119, 10, 0), 118), 0);
        Check.due("119, of 119", wetForetold(told(119, 10, 0), 119), 1);
        Check.due("known on 119", wetForetold(told(119, 10, 119), 119), 1);
        Check.due("known on 120", wetForetold(told(119, 10, 120), 119), 0);
        FloodTax x = told(5, 10, 7, 90, 9, 119, 3, 10, 120);
        x.table(7, 85, 4);
        Check.due("as harvest on 119", x.foretold(0, 119), x.harvest(0, 119));
        Check.due("which is", x.harvest(0, 119), 4);
        x.table(7, 86, 4);
        Check.due("and not", x.foretold(0, 119), 0);
    }

    private static void widthOnTheLand() {
        Check.sentence("III: likewise: WIDTH on the land times what it BEARS");
        FloodTax x = Lands.bearing(6);
        for (int ropes : new int[] {0, 1, 10000}) {
            x.draw(0, 1, ropes);
            Check.due(ropes + " ropes", x.foretold(0, 60), ropes);
        }
        x.table(7, 0, 100);
        Check.due("the greatest", x.foretold(0, 60), 1000000);
    }
}
