/** Promise 22, led: its bounds, sentence by sentence. */
public final class Promise22LedTest {
    public static void main(String[] args) {
        numberedFrom0();
        noneBehindTheLast();
        knownDays();
        whats();
        stripByStrip();
        stripsThatBearNone();
        officerKingOwner();
        partsOfNone();
        lastOfManyStrips();
        asKnown();
        Check.finish();
    }

    private static void whoGets(String when, FloodTax x, int from, int... who) {
        for (int i = 0; i < who.length; i++) {
            Check.due(when + ": led(" + (from + i) + ", 0, 1)", x.led(from + i, 0, 1), who[i]);
        }
    }

    private static void numberedFrom0() {
        Check.sentence("VI: numbered from 0 on; NONE");
        FloodTax x = Lands.bearing(5);
        Check.bounds("led sheaf, its strip", 0, 4, sheaf -> x.led(sheaf, 0, 0), 0, -1);
        Check.bounds("led sheaf, who gets it", 0, 4, sheaf -> x.led(sheaf, 0, 1), 2, -1);
        Check.due("status is left", x.status(), 0);
    }

    private static void noneBehindTheLast() {
        Check.sentence("22: NONE where there is no such SHEAF");
        Check.due("without strips", new FloodTax().led(0, 0, 0), -1);
        Check.due("nothing grows", Lands.ofWidths(5, 5).led(0, 0, 0), -1);
        FloodTax x = Lands.bearing(5, 6);
        Check.due("the last", x.led(10, 0, 0), 1);
        Check.due("behind it", x.led(11, 0, 0), -1);
        Check.due("behind it, who", x.led(11, 0, 1), -1);
    }

    private static void knownDays() {
        Check.sentence("22: as known on a DAY, 0 .. 1000; NONE");
        FloodTax x = Lands.bearing(5);
        Check.bounds("led known, its strip", 0, 1000, known -> x.led(4, known, 0), 0, -1);
        Check.bounds("led known, who gets it", 0, 1000, known -> x.led(4, known, 1), 2, -1);
    }

    private static void whats() {
        Check.sentence("22: what 0, 1; NONE");
        FloodTax x = Lands.bearing(5, 6, 7);
        Check.bounds("led what", 0, 1, what -> x.led(17, 0, what), 2, -1);
        Check.due("led(0, 0, 0)", x.led(0, 0, 0), 0);
        Check.due("led(0, 0, 1)", x.led(0, 0, 1), 2);
        Check.due("all wrong", x.led(18, 1001, 2), -1);
    }

    private static void stripByStrip() {
        Check.sentence("VI: STRIP by STRIP");
        FloodTax x = Lands.bearing(5, 1, 7);
        int[][] sheafStrip = {{0, 0}, {4, 0}, {5, 1}, {6, 2}, {12, 2}, {13, -1}};
        for (int[] s : sheafStrip) {
            Check.due("led(" + s[0] + ", 0, 0)", x.led(s[0], 0, 0), s[1]);
        }
    }

    private static void stripsThatBearNone() {
        Check.sentence("VI: a STRIP that bears none has none");
        FloodTax x = Lands.bearing(1, 3, 1, 1, 4, 1);
        for (int strip : new int[] {0, 2, 3, 5}) {
            x.draw(strip, strip + 1, 0);
        }
        int[][] sheafStrip = {{0, 1}, {2, 1}, {3, 4}, {6, 4}, {7, -1}};
        for (int[] s : sheafStrip) {
            Check.due("led(" + s[0] + ", 0, 0)", x.led(s[0], 0, 0), s[1]);
        }
    }

    private static void officerKingOwner() {
        Check.sentence("VI: of each STRIP first the officer's, then the king's, then the owner's");
        FloodTax x = Lands.bearing(10, 20);
        Texts.decree(x, "tax 1 of 2 from 0;officer 2 of 5");
        // Of 10: 2, 3, 5. Of 20: 4, 6, 10.
        whoGets("strip 0", x, 0, 0, 0, 1, 1, 1, 2, 2, 2, 2, 2);
        whoGets("strip 1", x, 10, 0, 0, 0, 0, 1, 1, 1, 1, 1, 1, 2, 2, 2, 2, 2, 2, 2, 2, 2, 2);
        whoGets("behind", x, 30, -1);
        Check.due("the king's first of strip 1 is of strip 1", x.led(14, 0, 0), 1);
    }

    private static void partsOfNone() {
        Check.sentence("VI: parts of which there is none");
        FloodTax x = Lands.bearing(2, 2);
        whoGets("no tax", x, 0, 2, 2, 2, 2, -1);
        Texts.decree(x, "tax 1 of 1 from 0");
        whoGets("all the king's", x, 0, 1, 1, 1, 1, -1);
        Texts.decree(x, "tax 1 of 1 from 0;officer 1 of 1");
        whoGets("all the officer's", x, 0, 0, 0, 0, 0, -1);
        Texts.decree(x, "tax 1 of 1 from 0;officer 1 of 2");
        whoGets("none the owner's", x, 0, 0, 1, 0, 1, -1);
        Texts.decree(x, "tax 1 of 2 from 0;officer 1 of 1");
        whoGets("none the king's", x, 0, 0, 2, 0, 2, -1);
        Texts.decree(x, "tax 1 of 2 from 0");
        whoGets("none the officer's", x, 0, 1, 2, 1, 2, -1);
        Texts.decree(x, "tax 1 of 1 from 0;relief 1 of 2 below 121");
        whoGets("relief is the owner's", x, 0, 1, 2, 1, 2, -1);
    }

    private static void lastOfManyStrips() {
        Check.sentence("22: to the last SHEAF of the last STRIP");
        FloodTax x = Lands.full();
        x.table(7, 120, 100);
        for (int i = 0; i < 24; i++) {
            x.draw(i, i + 1, 10000);
        }
        Check.due("the last of strip 0", x.led(999999, 0, 0), 0);
        Check.due("the first of strip 1", x.led(1000000, 0, 0), 1);
        Check.due("the first of strip 23", x.led(23000000, 0, 0), 23);
        Check.due("the last of strip 23", x.led(23999999, 0, 0), 23);
        Check.due("its owner's", x.led(23999999, 0, 1), 2);
        Check.due("behind it", x.led(24000000, 0, 0), -1);
    }

    private static void asKnown() {
        Check.sentence("VI: SHEAVES as known on a DAY");
        FloodTax x = new FloodTax();
        x.strip(2, 10, 0);
        x.strip(2, 0, 0);
        x.table(7, 120, 1);
        Texts.decree(x, "tax 1 of 2 from 10");
        x.read(0, 10, 50);
        Check.due("49: strip 0 bears none", x.led(0, 49, 0), 1);
        Check.due("49: no tax", x.led(0, 49, 1), 2);
        Check.due("49: two in all", x.led(2, 49, 0), -1);
        Check.due("50: of strip 0", x.led(0, 50, 0), 0);
        Check.due("50: the king's", x.led(0, 50, 1), 1);
        Check.due("50: four in all", x.led(3, 50, 0), 1);
        Check.due("50: no more", x.led(4, 50, 0), -1);
    }
}
