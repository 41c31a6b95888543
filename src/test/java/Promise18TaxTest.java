/** Promise 18, tax: its bounds, sentence by sentence. */
public final class Promise18TaxTest {
    public static void main(String[] args) {
        strips();
        knownDays();
        whats();
        belowFree();
        theLastFree();
        notAbovePeak();
        endsOfPeak();
        greatestFrom();
        alikeFromTheLast();
        noneWithoutTax();
        aboveItsWetDays();
        endsOfWetDays();
        leastBelow();
        alikeBelowTheLast();
        cuts();
        theLastOfficer();
        wholeAndNothing();
        theGreatest();
        asKnown();
        Check.finish();
    }

    private static void parts(String when, FloodTax x, int... want) {
        for (int what = 0; what < want.length; what++) {
            Check.due(when + ": tax(0, 0, " + what + ")", x.tax(0, 0, what), want[what]);
        }
    }

    /** A strip that bears 100 sheaves, on which the text holds. */
    private static FloodTax land(String text) {
        FloodTax x = Lands.bearing(100);
        Check.holds("\"" + text + "\" is right", Texts.decree(x, text) > 0);
        return x;
    }

    /** As land, with a river that peaks so high on the last day. */
    private static FloodTax peaked(int height, String text) {
        FloodTax x = land(text);
        x.read(119, height, 0);
        return x;
    }

    /** A strip of 100 sheaves that is wet on so many days. */
    private static FloodTax wetFor(int days, String text) {
        FloodTax x = Lands.wetFor(days);
        x.draw(0, 1, 100);
        x.table(7, 0, 1);
        Check.holds("\"" + text + "\" is right", Texts.decree(x, text) > 0);
        return x;
    }

    private static void strips() {
        Check.sentence("18: of a STRIP; NONE");
        FloodTax x = Lands.bearing(8, 8, 8);
        Texts.decree(x, "tax 1 of 2 from 0");
        Check.bounds("tax strip", 0, 2, strip -> x.tax(strip, 0, 0), 4, -1);
        FloodTax full = Lands.full();
        full.table(7, 0, 8);
        Texts.decree(full, "tax 1 of 2 from 0");
        Check.bounds("tax strip, of 24", 0, 23, strip -> full.tax(strip, 0, 0), 4, -1);
        Check.due("without strips", new FloodTax().tax(0, 0, 0), -1);
    }

    private static void knownDays() {
        Check.sentence("18: as known on a DAY, 0 .. 1000; NONE");
        FloodTax x = land("tax 1 of 2 from 0");
        Check.bounds("tax known", 0, 1000, known -> x.tax(0, known, 0), 50, -1);
    }

    private static void whats() {
        Check.sentence("18: what 0 .. 4; NONE");
        // tax 60 less relief 40 of it; of these 20 the officer 5, the king 15
        FloodTax x = land("tax 60 of 100 from 0;relief 2 of 3 below 121;officer 1 of 4");
        parts("all of them", x, 20, 40, 5, 15, 80);
        Check.due("what -1", x.tax(0, 0, -1), -1);
        Check.due("what 5", x.tax(0, 0, 5), -1);
        Check.due("what, least", x.tax(0, 0, Integer.MIN_VALUE), -1);
        Check.due("what, most", x.tax(0, 0, Integer.MAX_VALUE), -1);
        Check.due("all wrong", x.tax(1, 1001, 5), -1);
        Check.due("status is left", x.status(), 0);
    }

    private static void belowFree() {
        Check.sentence("IV: none, if its HARVEST is below the last \"free\"");
        parts("free 99", land("tax 1 of 2 from 0;free 99"), 50, 0, 0, 50, 50);
        parts("free 100", land("tax 1 of 2 from 0;free 100"), 50, 0, 0, 50, 50);
        parts("free 101", land("tax 1 of 2 from 0;free 101;relief 1 of 2 below 121;officer 1 of 2"), 0, 0, 0, 0, 100);
        parts("free 0", land("tax 1 of 2 from 0;free 0"), 50);
        FloodTax x = land("tax 1 of 1 from 0;free 10000");
        x.draw(0, 1, 9999);
        parts("9999, free 10000", x, 0);
        x.draw(0, 1, 10000);
        parts("10000, free 10000", x, 10000);
        x.draw(0, 1, 0);
        Texts.decree(x, "tax 1 of 1 from 0;free 0");
        parts("no harvest", x, 0, 0, 0, 0, 0);
    }

    private static void theLastFree() {
        Check.sentence("IV: the last \"free\"");
        parts("low behind high", land("free 101;tax 1 of 2 from 0;free 100"), 50);
        parts("high behind low", land("free 100;tax 1 of 2 from 0;free 101"), 0);
        parts("first of all decrees", land("free 101;tax 1 of 2 from 0"), 0);
        parts("last of all decrees", land("tax 1 of 2 from 0;free 101"), 0);
    }

    private static void notAbovePeak() {
        Check.sentence("IV: \"from\" not above PEAK");
        parts("peak 49", peaked(49, "tax 1 of 2 from 50"), 0, 0, 0, 0, 100);
        parts("peak 50", peaked(50, "tax 1 of 2 from 50"), 50, 0, 0, 50, 50);
        parts("peak 51", peaked(51, "tax 1 of 2 from 50"), 50, 0, 0, 50, 50);
    }

    private static void endsOfPeak() {
        Check.sentence("IV: PEAK 0 .. 400, \"from\" 0 .. 10,000");
        parts("peak 0, from 0", land("tax 1 of 2 from 0"), 50);
        parts("peak 0, from 1", land("tax 1 of 2 from 1"), 0);
        parts("peak 399, from 400", peaked(399, "tax 1 of 2 from 400"), 0);
        parts("peak 400, from 400", peaked(400, "tax 1 of 2 from 400"), 50);
        parts("peak 400, from 401", peaked(400, "tax 1 of 2 from 401"), 0);
        parts("peak 400, from 10000", peaked(400, "tax 1 of 2 from 10000"), 0);
    }

    private static void greatestFrom() {
        Check.sentence("IV: the \"tax\" with the greatest \"from\"");
        parts("behind", peaked(50, "tax 1 of 2 from 49;tax 1 of 4 from 50;tax 1 of 5 from 51"), 25);
        parts("ahead", peaked(50, "tax 1 of 5 from 51;tax 1 of 4 from 50;tax 1 of 2 from 49"), 25);
        parts("one of 0 counts too", peaked(50, "tax 1 of 2 from 49;tax 0 of 1 from 50"), 0);
    }

    private static void alikeFromTheLast() {
        Check.sentence("IV: \"from\": of alike ones the last");
        parts("three alike", peaked(50, "tax 1 of 2 from 50;tax 1 of 4 from 50;tax 1 of 5 from 50"), 20);
        parts("alike, others between", peaked(50, "tax 1 of 2 from 50;tax 1 of 10 from 0;tax 1 of 4 from 50;tax 1 of 5 from 0"), 25);
        parts("alike at 0", land("tax 1 of 2 from 0;tax 1 of 4 from 0"), 25);
    }

    private static void noneWithoutTax() {
        Check.sentence("IV: none without");
        parts("no tax told", land("free 0;relief 1 of 2 below 121;officer 1 of 2"), 0, 0, 0, 0, 100);
        parts("none from so low", land("tax 1 of 2 from 1;relief 1 of 2 below 121;officer 1 of 2"), 0, 0, 0, 0, 100);
        parts("no relief, no officer", land("tax 1 of 2 from 0"), 50, 0, 0, 50, 50);
        parts("no decrees", Lands.bearing(100), 0, 0, 0, 0, 100);
    }

    private static void aboveItsWetDays() {
        Check.sentence("IV: \"below\" that is above its WET DAYS");
        parts("below 19", wetFor(20, "tax 1 of 2 from 0;relief 1 of 5 below 19"), 50, 0, 0, 50, 50);
        parts("below 20", wetFor(20, "tax 1 of 2 from 0;relief 1 of 5 below 20"), 50, 0, 0, 50, 50);
        parts("below 21", wetFor(20, "tax 1 of 2 from 0;relief 1 of 5 below 21"), 40, 10, 0, 40, 60);
    }

    private static void endsOfWetDays() {
        Check.sentence("IV: WET DAYS 0 .. 120, \"below\" 0 .. 10,000");
        parts("0 wet, below 0", wetFor(0, "tax 1 of 2 from 0;relief 1 of 5 below 0"), 50, 0);
        parts("0 wet, below 1", wetFor(0, "tax 1 of 2 from 0;relief 1 of 5 below 1"), 40, 10);
        parts("119 wet, below 120", wetFor(119, "tax 1 of 2 from 0;relief 1 of 5 below 120"), 40, 10);
        parts("120 wet, below 120", wetFor(120, "tax 1 of 2 from 0;relief 1 of 5 below 120"), 50, 0);
        parts("120 wet, below 121", wetFor(120, "tax 1 of 2 from 0;relief 1 of 5 below 121"), 40, 10);
        parts("120 wet, below 10000", wetFor(120, "tax 1 of 2 from 0;relief 1 of 5 below 10000"), 40, 10);
    }

    private static void leastBelow() {
        Check.sentence("IV: the \"relief\" with the least \"below\"");
        parts("ahead", wetFor(20, "tax 1 of 2 from 0;relief 1 of 2 below 20;relief 1 of 5 below 21;relief 1 of 1 below 22"), 40, 10);
        parts("behind", wetFor(20, "tax 1 of 2 from 0;relief 1 of 1 below 22;relief 1 of 5 below 21;relief 1 of 2 below 20"), 40, 10);
        parts("first of all decrees", wetFor(20, "relief 1 of 5 below 21;tax 1 of 2 from 0"), 40, 10);
        parts("one of 0 counts too", wetFor(20, "tax 1 of 2 from 0;relief 0 of 1 below 21;relief 1 of 2 below 22"), 50, 0);
    }

    private static void alikeBelowTheLast() {
        Check.sentence("IV: \"below\": of alike ones the last");
        parts("three alike", wetFor(20, "tax 1 of 2 from 0;relief 1 of 1 below 21;relief 1 of 2 below 21;relief 1 of 5 below 21"), 40, 10);
        parts("alike, one between", wetFor(20, "tax 1 of 2 from 0;relief 1 of 1 below 21;relief 1 of 2 below 30;relief 1 of 5 below 21"), 40, 10);
    }

    private static void cuts() {
        Check.sentence("IV: cut");
        // 33.3, of which 16.5 relief, and 8.5 of 17 the officer's
        parts("all three are cut", land("tax 1 of 3 from 0;relief 1 of 2 below 121;officer 1 of 2"), 17, 16, 8, 9, 83);
        parts("below 1", land("tax 1 of 101 from 0"), 0);
        parts("just 1", land("tax 1 of 100 from 0;relief 99 of 100 below 121;officer 99 of 100"), 1, 0, 0, 1, 99);
        parts("just below all", land("tax 9999 of 10000 from 0"), 99, 0, 0, 99, 1);
    }

    private static void theLastOfficer() {
        Check.sentence("IV: of the last \"officer\"");
        parts("less behind more", land("officer 1 of 2;tax 1 of 1 from 0;officer 1 of 5"), 100, 0, 20, 80, 0);
        parts("more behind less", land("officer 1 of 5;tax 1 of 1 from 0;officer 1 of 2"), 100, 0, 50, 50, 0);
        parts("first of all decrees", land("officer 1 of 5;tax 1 of 1 from 0"), 100, 0, 20, 80, 0);
        parts("nothing behind more", land("officer 1 of 2;tax 1 of 1 from 0;officer 0 of 1"), 100, 0, 0, 100, 0);
    }

    private static void wholeAndNothing() {
        Check.sentence("IV: a / b from none to all");
        parts("all tax", land("tax 10000 of 10000 from 0"), 100, 0, 0, 100, 0);
        parts("no tax", land("tax 0 of 10000 from 0"), 0, 0, 0, 0, 100);
        parts("all relief", land("tax 1 of 1 from 0;relief 1 of 1 below 121;officer 1 of 1"), 0, 100, 0, 0, 100);
        parts("all to the officer", land("tax 1 of 1 from 0;officer 1 of 1"), 100, 0, 100, 0, 0);
    }

    private static void theGreatest() {
        Check.sentence("18: of the greatest HARVEST");
        FloodTax x = Lands.ofWidths(400);
        x.table(7, 120, 100);
        x.draw(0, 1, 10000);
        Texts.decree(x, "tax 10000 of 10000 from 0;officer 9999 of 10000");
        parts("a million", x, 1000000, 0, 999900, 100, 0);
        Texts.decree(x, "tax 9999 of 10000 from 0;relief 9999 of 10000 below 121;officer 1 of 10000");
        // 999,900 less 999,800 (.01 cut)
        parts("a million, relieved", x, 100, 999800, 0, 100, 999900);
    }

    private static void asKnown() {
        Check.sentence("18: HARVEST, PEAK and WET DAYS as known on the DAY");
        FloodTax x = new FloodTax();
        x.strip(10, 5, 0);
        x.table(7, 0, 2);
        x.table(6, 120, 4);
        Texts.decree(x, "tax 1 of 2 from 5;tax 1 of 10 from 0;relief 1 of 2 below 120");
        x.read(0, 5, 50);
        int[][] knownTaxRelief = {{0, 1, 1}, {49, 1, 1}, {50, 20, 0}, {51, 20, 0}, {1000, 20, 0}};
        for (int[] k : knownTaxRelief) {
            Check.due("tax(0, " + k[0] + ", 0)", x.tax(0, k[0], 0), k[1]);
            Check.due("tax(0, " + k[0] + ", 1)", x.tax(0, k[0], 1), k[2]);
        }
    }
}
