/** Promises 19 and 20: take, gain. */
public final class TakingsTest {
    public static void main(String[] args) {
        refusals();
        room();
        gains();
        gainAsKnown();
        gainOfNothing();
        greatest();
        Check.finish();
    }

    private static void refusals() {
        FloodTax x = new FloodTax();
        Check.due("no strips", x.take(0, 0, 0, 0), -2);
        x.strip(1, 0, 0);
        int[][] calls = {{-1, 0, 0, 0, -1}, {10, 0, 0, 0, -1}, {0, 0, -1, 0, -1}, {0, 0, 1000001, 0, -1}, {0, 0, 0, -1, -1},
            {0, 0, 0, 1001, -1}, {10, 5, 0, 0, -1}, {0, -1, 0, 0, -2}, {0, 1, 0, 0, -2}, {0, Integer.MAX_VALUE, 0, 0, -2},
            {0, 0, 0, 0, 1}, {9, 0, 1000000, 1000, 2}};
        for (int[] c : calls) {
            String call = "take " + c[0] + " " + c[1] + " " + c[2] + " " + c[3];
            Check.due(call, x.take(c[0], c[1], c[2], c[3]), c[4]);
            Check.due(call + ": status", x.status(), Math.min(c[4], 0));
        }
        Check.due("count", x.count(4), 2);
        Check.due("gain -1", x.gain(-1, 0), -1);
        Check.due("gain 10", x.gain(10, 0), -1);
        Check.due("gain known -1", x.gain(0, -1), -1);
        Check.due("gain known 1001", x.gain(0, 1001), -1);
        Check.due("gain 9", x.gain(9, 1000), 1000000);
        Check.due("gain 9, not known", x.gain(9, 999), 0);
    }

    private static void room() {
        FloodTax x = new FloodTax();
        x.strip(1, 0, 0);
        for (int i = 1; i <= 200; i++) {
            Check.due("take " + i, x.take(i % 10, 0, 1, 0), i);
        }
        Check.due("take 201", x.take(0, 0, 1, 0), -5);
        Check.due("status", x.status(), -5);
        Check.due("no such strip goes ahead", x.take(0, 1, 1, 0), -2);
        Check.due("a bad number goes ahead", x.take(10, 1, 1, 0), -1);
        Check.due("count", x.count(4), 200);
        Check.due("gain", x.gain(0, 0), 20);
    }

    /** Two strips of 100 and 60 sheaves, half of which is tax. */
    private static FloodTax land() {
        FloodTax x = new FloodTax();
        x.strip(100, 0, 0);
        x.strip(60, 0, 0);
        x.table(7, 0, 1);
        Texts.decree(x, "tax 1 of 2 from 0; officer 1 of 2");
        return x;
    }

    private static void gains() {
        FloodTax x = land();
        x.take(1, 0, 30, 0);
        Check.due("below the tax", x.gain(1, 0), 0);
        x.take(2, 0, 20, 0);
        Check.due("just the tax", x.gain(1, 0), 0);
        x.take(2, 0, 7, 0);
        Check.due("30 of 57, 7 beyond", x.gain(1, 0), 3);
        Check.due("27 of 57, 7 beyond", x.gain(2, 0), 3);
        x.take(1, 1, 35, 0);
        Check.due("each strip by itself", x.gain(1, 0), 8);
        Check.due("took none of strip 1", x.gain(2, 0), 3);
        Check.due("took nothing", x.gain(3, 0), 0);
        x.take(2, 1, 1, 0);
        Check.due("cut at each strip", x.gain(1, 0), 8);
        Check.due("1 of 36, 6 beyond", x.gain(2, 0), 3);
        Texts.decree(x, "tax 1 of 2 from 0; relief 1 of 2 below 121");
        Check.due("relief is off the tax", x.gain(1, 0), 16 + 20);
    }

    private static void gainAsKnown() {
        FloodTax x = land();
        x.take(1, 0, 60, 5);
        x.take(2, 0, 60, 8);
        Check.due("4", x.gain(1, 4), 0);
        Check.due("5", x.gain(1, 5), 10);
        Check.due("what the other took is not known", x.gain(1, 7), 10);
        Check.due("it is now", x.gain(1, 8), 35);
        Check.due("the other", x.gain(2, 8), 35);
        Check.due("the other ahead of that", x.gain(2, 7), 0);
        x.table(6, 30, 0);
        x.read(0, 0, 0);
        Check.due("tax as known", x.gain(1, 8), 60);
    }

    private static void gainOfNothing() {
        FloodTax x = land();
        Texts.decree(x, "");
        x.take(1, 0, 0, 0);
        Check.due("nothing taken by anyone", x.gain(1, 0), 0);
        x.take(2, 0, 5, 0);
        Check.due("took 0 of 5", x.gain(1, 0), 0);
        Check.due("took 5 of 5", x.gain(2, 0), 5);
        x.take(3, 1, 1, 0);
        Check.due("took 1 of 1", x.gain(3, 0), 1);
    }

    private static void greatest() {
        FloodTax x = new FloodTax();
        x.strip(1, 0, 0);
        for (int i = 0; i < 200; i++) {
            x.take(i % 2, 0, 1000000, 0);
        }
        Check.due("a hundred million", x.gain(0, 0), 100000000L);
    }
}
