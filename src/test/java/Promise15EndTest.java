/** Promise 15, end: its bounds, sentence by sentence. */
public final class Promise15EndTest {
    public static void main(String[] args) {
        notSoMany();
        below0();
        emptyTape();
        fullTape();
        firstBytesAlone();
        cutOnesAreGone();
        refusedChangesNothing();
        Check.finish();
    }

    private static FloodTax fed() {
        FloodTax x = new FloodTax();
        x.feed(0, 0, 0, 0, 0);
        return x;
    }

    private static void notSoMany() {
        Check.sentence("15: NONE, if it has not so many");
        Check.due("end(19) of 20", fed().end(19), 19);
        Check.due("end(20) of 20", fed().end(20), 20);
        Check.due("end(21) of 20", fed().end(21), -1);
        Check.due("end(200) of 20", fed().end(200), -1);
        Check.due("end, most", fed().end(Integer.MAX_VALUE), -1);
    }

    private static void below0() {
        Check.sentence("15: NONE, if n is below 0");
        Check.due("end(1)", fed().end(1), 1);
        Check.due("end(0)", fed().end(0), 0);
        Check.due("end(-1)", fed().end(-1), -1);
        Check.due("end, least", fed().end(Integer.MIN_VALUE), -1);
    }

    private static void emptyTape() {
        Check.sentence("15: an empty TAPE has 0 bytes");
        FloodTax x = new FloodTax();
        Check.due("end(-1)", x.end(-1), -1);
        Check.due("end(0)", x.end(0), 0);
        Check.due("end(1)", x.end(1), -1);
        Check.due("status is left", x.status(), 0);
        x.feed(0, 0, 0, 0, 0);
        x.decrees();
        Check.due("behind decrees()", x.end(1), -1);
    }

    private static void fullTape() {
        Check.sentence("15: a full TAPE has 200 bytes");
        FloodTax x = new FloodTax();
        Texts.put(x, " ".repeat(200));
        Check.due("end(201)", x.end(201), -1);
        Check.due("end(200)", x.end(200), 200);
        Check.due("end(199)", x.end(199), 199);
        Check.due("end(200) of 199", x.end(200), -1);
        Check.due("count(5)", x.count(5), 199);
    }

    /** The text's last bytes can't go on, so each cut shows in the answer. */
    private static void firstBytesAlone() {
        Check.sentence("15: the TAPE has its first n bytes alone");
        String text = "free 1;free 2 xxxxxx";
        int[][] cutDecreesFault = {{20, -6, 14}, {15, -6, 14}, {14, 2, -1}, {13, 2, -1}, {12, -6, 12}, {7, -6, 7}, {6, 1, -1}, {0, 0, -1}};
        for (int[] c : cutDecreesFault) {
            FloodTax x = new FloodTax();
            Texts.put(x, text);
            Check.due("end", x.end(c[0]), c[0]);
            Check.due("count(5)", x.count(5), c[0]);
            Check.due("decrees of " + c[0], x.decrees(), c[1]);
            Check.due("fault of " + c[0], x.fault(), c[2]);
        }
    }

    private static void cutOnesAreGone() {
        Check.sentence("15: what was cut does not come again");
        FloodTax x = new FloodTax();
        Texts.put(x, "free 1xx");
        Check.due("end(6)", x.end(6), 6);
        Check.due("end(7)", x.end(7), -1);
        Check.due("end(8)", x.end(8), -1);
        Check.due("feed", x.feed(0x20202020, 0x20202020, 0x20202020, 0x20202020, 0x20202020), 26);
        Check.due("decrees", x.decrees(), 1);
    }

    private static void refusedChangesNothing() {
        Check.sentence("15: when it is NONE the TAPE stays");
        FloodTax x = new FloodTax();
        Texts.put(x, "free 1");
        x.end(-1);
        x.end(7);
        Check.due("count(5)", x.count(5), 6);
        Check.due("decrees", x.decrees(), 1);
    }
}
