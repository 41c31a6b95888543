/** Promise 20, gain: its bounds, sentence by sentence. */
public final class Promise20GainTest {
    public static void main(String[] args) {
        officers();
        knownDays();
        nothingTaken();
        asFarAsAbove0();
        byAllOfficers();
        shareIsCut();
        stripByStrip();
        firstAndLastStrip();
        tookNothing();
        knownByThen();
        othersKnownByThen();
        taxAsKnownThen();
        lessItsTax();
        theGreatest();
        Check.finish();
    }

    /** Strips of 100 sheaves each, of which 50 are tax. */
    private static FloodTax halved(int strips) {
        FloodTax x = new FloodTax();
        for (int i = 0; i < strips; i++) {
            x.strip(100, 0, 0);
        }
        x.table(7, 0, 1);
        Texts.decree(x, "tax 1 of 2 from 0;officer 1 of 2");
        return x;
    }

    private static void officers() {
        Check.sentence("20: of an officer, 0 .. 9; NONE");
        FloodTax x = Lands.ofWidths(1);
        x.take(0, 0, 5, 0);
        x.take(9, 0, 5, 0);
        Check.bounds("gain officer", 0, 9, officer -> x.gain(officer, 0), 5, -1);
        for (int officer = 1; officer < 9; officer++) {
            Check.due("gain(" + officer + ", 0)", x.gain(officer, 0), 0);
        }
    }

    private static void knownDays() {
        Check.sentence("20: as known on a DAY, 0 .. 1000; NONE");
        FloodTax x = Lands.ofWidths(1);
        x.take(3, 0, 5, 0);
        Check.bounds("gain known", 0, 1000, known -> x.gain(3, known), 5, -1);
        Check.due("both wrong", x.gain(10, 1001), -1);
        Check.due("status is left", x.status(), 0);
    }

    private static void nothingTaken() {
        Check.sentence("20: 0 without STRIPS of which the officer took");
        Check.due("without strips", new FloodTax().gain(0, 0), 0);
        Check.due("without takings", halved(2).gain(0, 0), 0);
    }

    private static void asFarAsAbove0() {
        Check.sentence("V: less its TAX, as far as that is above 0");
        for (int taken : new int[] {0, 1, 49, 50, 51, 52, 100, 101, 1000000}) {
            FloodTax x = halved(1);
            x.take(3, 0, taken, 0);
            Check.due("took " + taken + ", tax 50", x.gain(3, 0), Math.max(0, taken - 50));
        }
    }

    private static void byAllOfficers() {
        Check.sentence("V: what was taken of each by all officers");
        FloodTax x = halved(1);
        x.take(3, 0, 25, 0);
        x.take(4, 0, 25, 0);
        Check.due("just the tax", x.gain(3, 0), 0);
        x.take(5, 0, 50, 0);
        Check.due("3: 25 of 100, 50 beyond", x.gain(3, 0), 12);
        Check.due("4: 25 of 100, 50 beyond", x.gain(4, 0), 12);
        Check.due("5: 50 of 100, 50 beyond", x.gain(5, 0), 25);
        x.take(3, 0, 25, 0);
        Check.due("3 twice: 50 of 125, 75 beyond", x.gain(3, 0), 30);
    }

    private static void shareIsCut() {
        Check.sentence("V: times own / all, cut");
        FloodTax x = halved(1);
        x.take(1, 0, 17, 0);
        x.take(2, 0, 17, 0);
        x.take(3, 0, 17, 0);
        Check.due("1 beyond, a third each", x.gain(1, 0), 0);
        x.take(4, 0, 2, 0);
        // 17 of 53, 3 beyond: 51 / 53
        Check.due("just below 1", x.gain(1, 0), 0);
        x.take(5, 0, 1, 0);
        // 17 of 54, 4 beyond: 68 / 54
        Check.due("just above 1", x.gain(1, 0), 1);
        Check.due("4: 8 / 54", x.gain(4, 0), 0);
    }

    private static void stripByStrip() {
        Check.sentence("V: over STRIPS, each of its own");
        FloodTax x = halved(3);
        x.take(1, 0, 40, 0);
        x.take(1, 1, 60, 0);
        Check.due("what is below the tax of one takes nothing off the other", x.gain(1, 0), 10);
        x.take(2, 2, 90, 0);
        Check.due("not over a strip of which another took", x.gain(1, 0), 10);
        Check.due("the other", x.gain(2, 0), 40);
        x.take(1, 2, 1, 0);
        // 41 beyond, 1 of 91
        Check.due("cut at each strip", x.gain(1, 0), 10);
    }

    private static void firstAndLastStrip() {
        Check.sentence("V: over all STRIPS, from the first to the last");
        FloodTax x = halved(24);
        x.take(1, 0, 51, 0);
        x.take(2, 23, 52, 0);
        Check.due("of strip 0", x.gain(1, 0), 1);
        Check.due("of strip 23", x.gain(2, 0), 2);
        x.take(1, 23, 52, 0);
        Check.due("of both", x.gain(1, 0), 1 + 27);
        for (int strip = 0; strip < 24; strip++) {
            x.take(7, strip, 1000, 0);
        }
        Check.holds("of all", x.gain(7, 0) > 22 * 950);
    }

    private static void tookNothing() {
        Check.sentence("V: an officer who took 0 sheaves has no share");
        FloodTax x = Lands.bearing(100);
        x.take(1, 0, 0, 0);
        Check.due("0 of 0", x.gain(1, 0), 0);
        x.take(2, 0, 9, 0);
        Check.due("0 of 9", x.gain(1, 0), 0);
        Check.due("9 of 9", x.gain(2, 0), 9);
        x.take(1, 0, 1, 0);
        Check.due("1 of 10", x.gain(1, 0), 1);
    }

    private static void knownByThen() {
        Check.sentence("V: took (as known by then)");
        FloodTax x = halved(1);
        x.take(1, 0, 60, 50);
        Check.due("49", x.gain(1, 49), 0);
        Check.due("50", x.gain(1, 50), 10);
        Check.due("51", x.gain(1, 51), 10);
    }

    private static void othersKnownByThen() {
        Check.sentence("V: what others took counts from the DAY on that it is known");
        FloodTax x = halved(1);
        x.take(1, 0, 60, 0);
        x.take(2, 0, 40, 50);
        Check.due("49: 60 of 60, 10 beyond", x.gain(1, 49), 10);
        Check.due("50: 60 of 100, 50 beyond", x.gain(1, 50), 30);
    }

    private static void taxAsKnownThen() {
        Check.sentence("V: its TAX as known then");
        FloodTax x = new FloodTax();
        x.strip(100, 10, 0);
        x.table(7, 120, 1);
        Texts.decree(x, "tax 1 of 2 from 0");
        x.take(1, 0, 60, 0);
        x.read(0, 10, 50);
        Check.due("49: no tax", x.gain(1, 49), 60);
        Check.due("50: tax 50", x.gain(1, 50), 10);
    }

    private static void lessItsTax() {
        Check.sentence("V: its TAX, off which RELIEF is, the king's and the officer's part together");
        FloodTax x = halved(1);
        x.take(1, 0, 60, 0);
        Check.due("with the officer's part", x.gain(1, 0), 10);
        Texts.decree(x, "tax 1 of 2 from 0;relief 1 of 5 below 121");
        Check.due("relief 10", x.gain(1, 0), 20);
        Texts.decree(x, "tax 1 of 2 from 0;free 101");
        Check.due("free", x.gain(1, 0), 60);
        Texts.decree(x, "tax 1 of 1 from 0");
        Check.due("all is tax", x.gain(1, 0), 0);
    }

    private static void theGreatest() {
        Check.sentence("20: a long: the greatest GAIN");
        FloodTax x = Lands.ofWidths(1);
        for (int i = 0; i < 199; i++) {
            x.take(1, 0, 1000000, 0);
        }
        Check.due("199 times a million", x.gain(1, 1000), 199000000L);
        x.take(2, 0, 1, 0);
        Check.due("all but one sheaf", x.gain(1, 1000), 199000000L);
        Check.due("one sheaf", x.gain(2, 1000), 1);
    }
}
