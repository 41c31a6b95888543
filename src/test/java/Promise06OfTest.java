/** Promise 6, of: its bounds, sentence by sentence. */
public final class Promise06OfTest {
    public static void main(String[] args) {
        strips();
        fullLand();
        whats();
        eachWhat();
        whileMarksAreLost();
        registerStays();
        Check.finish();
    }

    private static void strips() {
        Check.sentence("6: of a STRIP; NONE");
        FloodTax x = Lands.ofWidths(7, 7, 7);
        for (int what = 0; what < 2; what++) {
            int asked = what;
            Check.bounds("of strip, " + what, 0, 2, strip -> x.of(strip, asked), 7, -1);
        }
        Check.bounds("of strip, level", 0, 2, strip -> x.of(strip, 2), 0, -1);
        Check.bounds("of strip, owner", 0, 2, strip -> x.of(strip, 3), 0, -1);
        Check.due("without strips", new FloodTax().of(0, 0), -1);
        Check.due("status is left", x.status(), 0);
    }

    private static void fullLand() {
        Check.sentence("6: STRIPS 0 .. 23");
        FloodTax x = Lands.full();
        Check.bounds("of strip, of 24", 0, 23, strip -> x.of(strip, 0), 1, -1);
    }

    private static void whats() {
        Check.sentence("6: what 0 .. 3; NONE");
        FloodTax x = new FloodTax();
        x.strip(7, 7, 7);
        Check.bounds("of what", 0, 3, what -> x.of(0, what), 7, -1);
        Check.due("both wrong", x.of(1, 4), -1);
    }

    private static void eachWhat() {
        Check.sentence("6: WIDTH on the land (0), in the REGISTER (1), LEVEL (2), owner (3)");
        FloodTax x = new FloodTax();
        x.strip(400, 399, 18);
        x.strip(11, 12, 13);
        x.draw(1, 2, 10000);
        int[][] want = {{400, 400, 399, 18}, {10000, 11, 12, 13}};
        for (int strip = 0; strip < 2; strip++) {
            for (int what = 0; what < 4; what++) {
                Check.due("of(" + strip + ", " + what + ")", x.of(strip, what), want[strip][what]);
            }
        }
    }

    private static void whileMarksAreLost() {
        Check.sentence("6: also while MARKS are LOST");
        FloodTax x = Lands.ofWidths(5, 6, 7);
        Lands.lose(x, 1, 2);
        Lands.widths("both lost", x, 5, 6, 7);
        x.draw(0, 3, 36);
        Lands.widths("drawn", x, 10, 12, 14);
        Lands.lose(x, 1, 2);
        Lands.widths("lost again", x, 10, 12, 14);
    }

    private static void registerStays() {
        Check.sentence("6: the REGISTER is not drawn anew");
        FloodTax x = Lands.ofWidths(5, 6);
        x.lose(1);
        x.draw(0, 2, 0);
        Lands.widths("on the land", x, 0, 0);
        Check.due("of(0, 1)", x.of(0, 1), 5);
        Check.due("of(1, 1)", x.of(1, 1), 6);
    }
}
