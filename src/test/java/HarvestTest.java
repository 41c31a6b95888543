/** Promises 10 to 13: table, wet, harvest, foretold. */
public final class HarvestTest {
    public static void main(String[] args) {
        tableRefusals();
        tableRows();
        wetDays();
        harvests();
        foretold();
        wrongInputs();
        Check.finish();
    }

    private static void tableRefusals() {
        FloodTax x = new FloodTax();
        x.strip(1, 0, 0);
        int[][] bad = {{-1, 0, 0}, {8, 0, 0}, {0, -1, 0}, {0, 121, 0}, {0, 0, -1}, {0, 0, 101}};
        for (int[] b : bad) {
            Check.due("table " + b[0] + " " + b[1] + " " + b[2], x.table(b[0], b[1], b[2]), -1);
            Check.due("status", x.status(), -1);
        }
        Check.due("nothing changed", x.harvest(0, 0), 0);
        Check.due("most", x.table(7, 120, 100), 0);
        Check.due("status", x.status(), 0);
        Check.due("120 wet days", x.harvest(0, 0), 100);
        Check.due("least", x.table(7, 0, 0), 0);
        Check.due("row written over", x.harvest(0, 0), 0);
    }

    /** A strip of one rope that is wet on just so many days. */
    private static FloodTax wetFor(int days) {
        FloodTax x = new FloodTax();
        x.strip(1, 10, 0);
        x.read(0, days > 0 ? 10 : 9, 0);
        if (days < 120) {
            x.read(days, 9, 0);
        }
        Check.due("wet " + days, x.wet(0, 0), days);
        return x;
    }

    private static void tableRows() {
        FloodTax x = wetFor(7);
        x.table(0, 7, 3);
        Check.due("not above", x.harvest(0, 0), 3);
        x.table(1, 8, 4);
        Check.due("above does not count", x.harvest(0, 0), 3);
        x.table(2, 6, 5);
        Check.due("the greatest counts", x.harvest(0, 0), 3);
        x.table(5, 7, 6);
        Check.due("of alike ones the later row", x.harvest(0, 0), 6);
        x.table(0, 7, 9);
        Check.due("the later row, not the one told later", x.harvest(0, 0), 6);
        for (int k = 0; k < 8; k++) {
            x.table(k, 8, 50);
        }
        Check.due("no row", x.harvest(0, 0), 0);
        x = wetFor(0);
        x.table(3, 0, 8);
        Check.due("alike with later rows of 0, 0", x.harvest(0, 0), 0);
        x.table(7, 0, 8);
        Check.due("the last row", x.harvest(0, 0), 8);
    }

    private static void wetDays() {
        FloodTax x = new FloodTax();
        x.strip(10, 50, 0);
        x.strip(10, 0, 0);
        x.strip(10, 400, 0);
        Check.due("dry", x.wet(0, 0), 0);
        Check.due("level 0", x.wet(1, 0), 120);
        x.read(100, 50, 3);
        Check.due("not known", x.wet(0, 2), 0);
        Check.due("not below", x.wet(0, 3), 20);
        x.read(110, 49, 4);
        Check.due("below", x.wet(0, 4), 10);
        x.read(119, 400, 5);
        Check.due("last day", x.wet(2, 5), 1);
        Check.due("last day too", x.wet(0, 5), 11);
    }

    private static void harvests() {
        FloodTax x = wetFor(120);
        x.table(0, 120, 100);
        Check.due("one rope", x.harvest(0, 0), 100);
        x.draw(0, 1, 10000);
        Check.due("width on the land", x.harvest(0, 0), 1000000);
        x.draw(0, 1, 0);
        Check.due("no width", x.harvest(0, 0), 0);
        x.strip(3, 11, 0);
        x.table(7, 0, 4);
        Check.due("dry strip", x.harvest(1, 1000), 12);
        x.read(0, 11, 500);
        Check.due("not known", x.harvest(1, 499), 12);
        Check.due("known", x.harvest(1, 500), 300);
    }

    private static void foretold() {
        FloodTax x = new FloodTax();
        x.strip(1, 10, 0);
        for (int k = 0; k < 8; k++) {
            x.table(k, 15 * k, 10 + k);
        }
        x.read(5, 10, 2);
        x.read(50, 0, 3);
        x.read(60, 10, 60);
        x.read(7, 0, 8);
        Check.due("day 4: of day 5 known, not counted", x.foretold(0, 4), 10);
        Check.due("day 5: goes on to the end, 115 days", x.foretold(0, 5), 17);
        Check.due("day 7: what becomes known on 8 is not known", x.foretold(0, 7), 17);
        Check.due("day 8: known, 2 days", x.foretold(0, 8), 10);
        Check.due("day 59", x.foretold(0, 59), 10);
        Check.due("day 60: 62 days", x.foretold(0, 60), 14);
        Check.due("day 119", x.foretold(0, 119), 14);
        Check.due("day 119 is as harvest", x.harvest(0, 119), 14);
        x.read(0, 10, 119);
        Check.due("known on 119", x.foretold(0, 119), 14);
        Check.due("ahead of that", x.foretold(0, 118), 14);
        x.read(1, 10, 120);
        x.read(7, 10, 120);
        Check.due("known too late to foretell", x.foretold(0, 119), 14);
        Check.due("reaped, 110 days", x.harvest(0, 120), 17);
        x.draw(0, 1, 20);
        Check.due("width on the land", x.foretold(0, 119), 280);
    }

    private static void wrongInputs() {
        FloodTax x = new FloodTax();
        Check.due("wet without strips", x.wet(0, 0), -1);
        Check.due("harvest without strips", x.harvest(0, 0), -1);
        Check.due("foretold without strips", x.foretold(0, 0), -1);
        x.strip(1, 0, 0);
        int[][] bad = {{-1, 0}, {1, 0}, {0, -1}, {0, 1001}, {Integer.MAX_VALUE, 0}};
        for (int[] b : bad) {
            Check.due("wet " + b[0] + " " + b[1], x.wet(b[0], b[1]), -1);
            Check.due("harvest " + b[0] + " " + b[1], x.harvest(b[0], b[1]), -1);
            Check.due("foretold " + b[0] + " " + b[1], x.foretold(b[0], b[1]), -1);
        }
        Check.due("foretold 120", x.foretold(0, 120), -1);
        Check.due("wet 1000", x.wet(0, 1000), 120);
        Check.due("harvest 1000", x.harvest(0, 1000), 0);
        Check.due("status is not touched", x.status(), 0);
    }
}
