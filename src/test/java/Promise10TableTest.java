/** Promise 10, table: its bounds, sentence by sentence. */
public final class Promise10TableTest {
    public static void main(String[] args) {
        rows();
        eachRow();
        days();
        sheaves();
        toldAgain();
        refusedChangesNothing();
        Check.finish();
    }

    private static void rows() {
        Check.sentence("10: row k (0 .. 7)");
        FloodTax x = new FloodTax();
        Check.bounds("table row", 0, 7, row -> x.table(row, 1, 1), 0, -1);
        Check.due("status", x.status(), -1);
        x.table(0, 0, 0);
        Check.due("status", x.status(), 0);
    }

    private static void eachRow() {
        Check.sentence("III: eight rows");
        for (int row = 0; row < 8; row++) {
            FloodTax x = Lands.ofWidths(1);
            x.table(row, 1, 10 + row);
            Check.due("row " + row + " alone", x.harvest(0, 0), 10 + row);
        }
        FloodTax x = Lands.wetFor(5);
        for (int row = 0; row < 8; row++) {
            x.table(row, row + 1, 10 + row);
        }
        Check.due("all rows: that from 5 days on", x.harvest(0, 0), 14);
    }

    private static void days() {
        Check.sentence("III: from so many WET DAYS on (0 .. 120)");
        Check.bounds("table days", 0, 120, days -> new FloodTax().table(0, days, 1), 0, -1);
        FloodTax x = Lands.ofWidths(1);
        x.table(0, 120, 3);
        Check.due("120 is kept", x.harvest(0, 0), 3);
        x = Lands.wetFor(0);
        x.table(7, 0, 3);
        Check.due("0 is kept", x.harvest(0, 0), 3);
    }

    private static void sheaves() {
        Check.sentence("III: so many sheaves a rope (0 .. 100)");
        Check.bounds("table sheaves", 0, 100, sheaves -> new FloodTax().table(0, 0, sheaves), 0, -1);
        FloodTax x = Lands.ofWidths(1);
        x.table(7, 0, 100);
        Check.due("100 is kept", x.harvest(0, 0), 100);
        x.table(7, 0, 0);
        Check.due("0 is kept", x.harvest(0, 0), 0);
    }

    private static void toldAgain() {
        Check.sentence("10: a row told again is as told last");
        FloodTax x = Lands.ofWidths(1);
        Check.due("table", x.table(3, 50, 9), 0);
        Check.due("table", x.table(3, 20, 4), 0);
        Check.due("harvest", x.harvest(0, 0), 4);
        FloodTax dry = Lands.wetFor(19);
        dry.table(3, 10, 9);
        dry.table(3, 20, 4);
        Check.due("nothing is left of the row", dry.harvest(0, 0), 0);
    }

    private static void refusedChangesNothing() {
        Check.sentence("10: when it is refused the rows stay");
        FloodTax x = Lands.ofWidths(1);
        x.table(0, 9, 9);
        x.table(7, 10, 5);
        int[][] bad = {{7, 121, 1}, {7, -1, 1}, {7, 1, 101}, {7, 1, -1}, {8, 20, 1}, {-1, 20, 1}, {0, 121, 101}};
        for (int[] b : bad) {
            Check.due("table " + b[0] + " " + b[1] + " " + b[2], x.table(b[0], b[1], b[2]), -1);
            Check.due("harvest", x.harvest(0, 0), 5);
        }
        x.table(7, 0, 0);
        Check.due("row 0 too", x.harvest(0, 0), 9);
    }
}
