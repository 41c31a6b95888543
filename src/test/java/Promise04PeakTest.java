/** Promise 4, peak: its bounds, sentence by sentence. */
public final class Promise04PeakTest {
    public static void main(String[] args) {
        knownDays();
        ofAllDays();
        asKnown();
        withoutReadings();
        greatestHeights();
        toldAnewLower();
        Check.finish();
    }

    private static FloodTax told(int day, int height, int known) {
        FloodTax x = new FloodTax();
        x.read(day, height, known);
        return x;
    }

    private static void knownDays() {
        Check.sentence("4: as known on a DAY, 0 .. 1000; NONE");
        FloodTax x = told(3, 9, 0);
        Check.bounds("peak known", 0, 1000, x::peak, 9, -1);
        Check.due("status is left", x.status(), 0);
    }

    private static void ofAllDays() {
        Check.sentence("IV: the greatest HEIGHT of all DAYS");
        for (int day : new int[] {0, 1, 60, 118, 119}) {
            FloodTax x = told(day, 9, 0);
            if (day < 119) {
                x.read(day + 1, 8, 0);
            }
            Check.due("on day " + day, x.peak(0), 9);
        }
        FloodTax x = told(0, 8, 0);
        x.read(119, 9, 0);
        Check.due("the last is the greatest", x.peak(0), 9);
        x = told(0, 9, 0);
        x.read(119, 8, 0);
        Check.due("the first is the greatest", x.peak(0), 9);
    }

    private static void asKnown() {
        Check.sentence("4: PEAK as known on a DAY");
        FloodTax x = told(3, 9, 50);
        Check.due("49", x.peak(49), 0);
        Check.due("50", x.peak(50), 9);
        Check.due("51", x.peak(51), 9);
        x.read(60, 10, 1000);
        Check.due("999", x.peak(999), 9);
        Check.due("1000", x.peak(1000), 10);
    }

    private static void withoutReadings() {
        Check.sentence("4: without READINGS all HEIGHTS are 0");
        Check.due("peak(0)", new FloodTax().peak(0), 0);
        Check.due("peak(1000)", new FloodTax().peak(1000), 0);
        Check.due("a reading of 0", told(119, 0, 0).peak(0), 0);
        Check.due("a reading of 1", told(119, 1, 0).peak(0), 1);
    }

    private static void greatestHeights() {
        Check.sentence("I: HEIGHT to 400");
        Check.due("399", told(119, 399, 0).peak(0), 399);
        Check.due("400", told(119, 400, 0).peak(0), 400);
        Check.due("401 is none", told(119, 401, 0).peak(0), 0);
    }

    private static void toldAnewLower() {
        Check.sentence("4: a HEIGHT that was told anew is none of those of the DAYS");
        FloodTax x = told(3, 90, 0);
        x.read(3, 9, 20);
        Check.due("19", x.peak(19), 90);
        Check.due("20", x.peak(20), 9);
    }
}
