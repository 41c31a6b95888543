/** Promise 3, height: its bounds, sentence by sentence. */
public final class Promise03HeightTest {
    public static void main(String[] args) {
        days();
        knownDays();
        knownByThen();
        toldLastCounts();
        toldLastButNotKnown();
        alikeOnes();
        dayAhead();
        day0();
        height0IsTold();
        askedInAnyOrder();
        Check.finish();
    }

    private static FloodTax told(int... dayHeightKnown) {
        FloodTax x = new FloodTax();
        for (int i = 0; i < dayHeightKnown.length; i += 3) {
            x.read(dayHeightKnown[i], dayHeightKnown[i + 1], dayHeightKnown[i + 2]);
        }
        return x;
    }

    private static void days() {
        Check.sentence("3: a DAY, 0 .. 119; NONE");
        FloodTax x = told(0, 33, 0);
        Check.bounds("height day", 0, 119, day -> x.height(day, 0), 33, -1);
    }

    private static void knownDays() {
        Check.sentence("3: as known on a DAY (0 .. 1000); NONE");
        FloodTax x = told(4, 33, 0);
        Check.bounds("height known", 0, 1000, known -> x.height(4, known), 33, -1);
        Check.due("both wrong", x.height(-1, -1), -1);
        Check.due("status is left", x.status(), 0);
    }

    private static void knownByThen() {
        Check.sentence("I: of those known by then");
        FloodTax x = told(4, 33, 50);
        Check.due("a day too early", x.height(4, 49), 0);
        Check.due("on the day", x.height(4, 50), 33);
        Check.due("a day later", x.height(4, 51), 33);
        x = told(4, 33, 0, 5, 44, 1000);
        Check.due("known on 0", x.height(4, 0), 33);
        Check.due("not known on 999", x.height(5, 999), 33);
        Check.due("known on 1000", x.height(5, 1000), 44);
    }

    private static void toldLastCounts() {
        Check.sentence("I: the one told last counts");
        FloodTax x = told(4, 33, 50, 4, 22, 40);
        Check.due("told last, known first", x.height(4, 40), 22);
        Check.due("told first, known by now too", x.height(4, 50), 22);
        Check.due("none known yet", x.height(4, 39), 0);
    }

    private static void toldLastButNotKnown() {
        Check.sentence("I: one that is not known by then hides none");
        FloodTax x = told(4, 33, 10, 4, 22, 20, 4, 11, 30);
        Check.due("19", x.height(4, 19), 33);
        Check.due("20", x.height(4, 20), 22);
        Check.due("29", x.height(4, 29), 22);
        Check.due("30", x.height(4, 30), 11);
    }

    private static void alikeOnes() {
        Check.sentence("I: of alike DAYS the one told last");
        FloodTax x = told(4, 33, 10, 4, 22, 10);
        Check.due("10", x.height(4, 10), 22);
        Check.due("9", x.height(4, 9), 0);
    }

    private static void dayAhead() {
        Check.sentence("I: a DAY without one has the HEIGHT of the DAY ahead");
        FloodTax x = told(4, 33, 0, 7, 22, 0);
        Check.due("ahead of the first", x.height(3, 0), 0);
        Check.due("the first", x.height(4, 0), 33);
        Check.due("one behind it", x.height(5, 0), 33);
        Check.due("one ahead of the second", x.height(6, 0), 33);
        Check.due("the second", x.height(7, 0), 22);
        Check.due("one behind it", x.height(8, 0), 22);
        Check.due("the last day", x.height(119, 0), 22);
        x = told(118, 5, 0);
        Check.due("119 from 118", x.height(119, 0), 5);
        x = told(118, 5, 0, 119, 6, 1);
        Check.due("119 from 118, not known", x.height(119, 0), 5);
        Check.due("119 of its own", x.height(119, 1), 6);
    }

    private static void day0() {
        Check.sentence("I: DAY 0: 0");
        FloodTax x = told(1, 33, 0, 0, 44, 9);
        Check.due("without one", x.height(0, 8), 0);
        Check.due("day 1", x.height(1, 8), 33);
        Check.due("with one", x.height(0, 9), 44);
        Check.due("day 1 still", x.height(1, 9), 33);
    }

    private static void height0IsTold() {
        Check.sentence("I: a HEIGHT of 0 is one too");
        FloodTax x = told(4, 33, 0, 5, 0, 0);
        Check.due("told", x.height(5, 0), 0);
        Check.due("handed on", x.height(6, 0), 0);
        x.read(4, 0, 0);
        Check.due("told anew", x.height(4, 0), 0);
    }

    private static void askedInAnyOrder() {
        Check.sentence("3: an answer does not hang on what was asked ahead of it");
        FloodTax x = told(0, 33, 50, 119, 44, 50);
        for (int known : new int[] {50, 49, 1000, 0, 50, 0}) {
            Check.due("height(0, " + known + ")", x.height(0, known), known < 50 ? 0 : 33);
            Check.due("height(119, " + known + ")", x.height(119, known), known < 50 ? 0 : 44);
        }
    }
}
