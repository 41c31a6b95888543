/** Promise 12, harvest: its bounds, sentence by sentence. */
public final class Promise12HarvestTest {
    public static void main(String[] args) {
        strips();
        knownDays();
        notAboveThoseWet();
        endsOfTheDays();
        greatestRowCounts();
        alikeTheLaterRow();
        noneWithoutARow();
        widthOnTheLand();
        theGreatest();
        asKnown();
        Check.finish();
    }

    private static void strips() {
        Check.sentence("12: of a STRIP; NONE");
        FloodTax x = Lands.bearing(6, 6, 6);
        Check.bounds("harvest strip", 0, 2, strip -> x.harvest(strip, 0), 6, -1);
        FloodTax full = Lands.full();
        full.table(7, 0, 9);
        Check.bounds("harvest strip, of 24", 0, 23, strip -> full.harvest(strip, 0), 9, -1);
        Check.due("without strips", new FloodTax().harvest(0, 0), -1);
    }

    private static void knownDays() {
        Check.sentence("12: as known on a DAY, 0 .. 1000; NONE");
        FloodTax x = Lands.bearing(6);
        Check.bounds("harvest known", 0, 1000, known -> x.harvest(0, known), 6, -1);
        Check.due("both wrong", x.harvest(-1, -1), -1);
        Check.due("status is left", x.status(), 0);
    }

    private static void notAboveThoseWet() {
        Check.sentence("III: the row ... that is not above those WET");
        for (int days = 6; days <= 8; days++) {
            FloodTax x = Lands.wetFor(7);
            x.table(0, days, 5);
            Check.due("row from " + days + " on, 7 wet", x.harvest(0, 0), days <= 7 ? 5 : 0);
        }
    }

    private static void endsOfTheDays() {
        Check.sentence("III: from 0 .. 120 WET DAYS on");
        int[][] wetRowWant = {{0, 0, 5}, {0, 1, 0}, {1, 1, 5}, {118, 119, 0}, {119, 119, 5}, {119, 120, 0}, {120, 119, 5}, {120, 120, 5}};
        for (int[] c : wetRowWant) {
            FloodTax x = Lands.wetFor(c[0]);
            x.table(7, c[1], 5);
            Check.due(c[0] + " wet, row from " + c[1] + " on", x.harvest(0, 0), c[2]);
        }
    }

    private static void greatestRowCounts() {
        Check.sentence("III: the row with the greatest number of DAYS");
        FloodTax x = Lands.wetFor(7);
        x.table(0, 7, 1);
        x.table(1, 6, 50);
        Check.due("the greatest ahead", x.harvest(0, 0), 1);
        x = Lands.wetFor(7);
        x.table(0, 6, 50);
        x.table(7, 7, 1);
        Check.due("the greatest behind", x.harvest(0, 0), 1);
        x.table(3, 8, 70);
        Check.due("one above does not count", x.harvest(0, 0), 1);
        x.table(7, 5, 1);
        Check.due("the greatest of those left", x.harvest(0, 0), 50);
    }

    private static void alikeTheLaterRow() {
        Check.sentence("III: of alike ones the later row");
        FloodTax x = Lands.wetFor(7);
        x.table(7, 7, 2);
        x.table(6, 7, 9);
        Check.due("rows 6 and 7", x.harvest(0, 0), 2);
        x.table(7, 6, 2);
        Check.due("row 6, alike no more", x.harvest(0, 0), 9);
        x.table(0, 7, 3);
        Check.due("rows 0 and 6", x.harvest(0, 0), 9);
        x.table(1, 7, 4);
        x.table(6, 8, 1);
        Check.due("rows 0 and 1", x.harvest(0, 0), 4);
        x = Lands.wetFor(0);
        x.table(6, 0, 9);
        Check.due("row 7 is 0, 0 and alike", x.harvest(0, 0), 0);
    }

    private static void noneWithoutARow() {
        Check.sentence("III: 0 without one");
        for (int wet = 0; wet <= 2; wet++) {
            FloodTax x = Lands.wetFor(wet);
            for (int row = 0; row < 8; row++) {
                x.table(row, 2, 60);
            }
            Check.due("rows from 2 on, " + wet + " wet", x.harvest(0, 0), wet < 2 ? 0 : 60);
        }
    }

    private static void widthOnTheLand() {
        Check.sentence("III: WIDTH on the land times what it BEARS");
        FloodTax x = Lands.bearing(6);
        for (int ropes : new int[] {0, 1, 6, 7, 400, 401, 9999, 10000}) {
            x.draw(0, 1, ropes);
            Check.due(ropes + " ropes", x.harvest(0, 0), ropes);
        }
    }

    private static void theGreatest() {
        Check.sentence("12: the greatest HARVEST");
        FloodTax x = Lands.ofWidths(400);
        x.table(7, 120, 100);
        Check.due("of the register", x.harvest(0, 0), 40000);
        x.draw(0, 1, 10000);
        Check.due("of the land", x.harvest(0, 1000), 1000000);
    }

    private static void asKnown() {
        Check.sentence("III: by WET DAYS as known then");
        FloodTax x = new FloodTax();
        x.strip(2, 10, 0);
        x.table(0, 100, 5);
        x.read(20, 10, 50);
        x.read(21, 9, 1000);
        Check.due("49", x.harvest(0, 49), 0);
        Check.due("50", x.harvest(0, 50), 10);
        Check.due("51", x.harvest(0, 51), 10);
        Check.due("999", x.harvest(0, 999), 10);
        Check.due("1000", x.harvest(0, 1000), 0);
    }
}
