/** Promises 21 and 22: sheaves, led. */
public final class SheavesTest {
    public static void main(String[] args) {
        numbers();
        everySheaf();
        wrongInputs();
        most();
        Check.finish();
    }

    /** Strips of 10, 0, 7 and 20 sheaves; the third grows to 70 from day 9 on. */
    private static FloodTax land() {
        FloodTax x = new FloodTax();
        x.strip(10, 0, 0);
        x.strip(5, 0, 0);
        x.strip(7, 30, 0);
        x.strip(20, 0, 0);
        x.draw(1, 2, 0);
        x.table(7, 0, 1);
        x.table(6, 120, 1);
        x.table(5, 110, 10);
        x.read(5, 30, 9);
        return x;
    }

    private static void numbers() {
        FloodTax x = land();
        Check.due("sheaves 8", x.sheaves(8), 37);
        Check.due("sheaves 9", x.sheaves(9), 100);
        Check.due("first", x.led(0, 8, 0), 0);
        Check.due("last of strip 0", x.led(9, 8, 0), 0);
        Check.due("strip 1 has none", x.led(10, 8, 0), 2);
        Check.due("last of strip 2", x.led(16, 8, 0), 2);
        Check.due("first of strip 3", x.led(17, 8, 0), 3);
        Check.due("last", x.led(36, 8, 0), 3);
        Check.due("behind the last", x.led(37, 8, 0), -1);
        Check.due("as known on 9", x.led(37, 9, 0), 2);
        Check.due("all to the owner", x.led(0, 8, 1), 2);
    }

    private static void everySheaf() {
        FloodTax x = land();
        Texts.decree(x, "tax 1 of 2 from 0; officer 1 of 3; relief 1 of 4 below 50; tax 3 of 4 from 30");
        for (int known = 8; known <= 9; known++) {
            int sheaf = 0;
            for (int strip = 0; strip < 4; strip++) {
                for (int who = 0; who < 3; who++) {
                    for (int i = 0; i < x.tax(strip, known, 2 + who); i++) {
                        Check.due("led " + sheaf + " known " + known + ": strip", x.led(sheaf, known, 0), strip);
                        Check.due("led " + sheaf + " known " + known + ": who", x.led(sheaf, known, 1), who);
                        sheaf++;
                    }
                }
            }
            Check.due("all sheaves", x.sheaves(known), sheaf);
            Check.due("no more: strip", x.led(sheaf, known, 0), -1);
            Check.due("no more: who", x.led(sheaf, known, 1), -1);
        }
        Check.due("officer's last", x.led(0, 8, 1), 0);
        Check.due("king's first", x.led(1, 8, 1), 1);
        Check.due("king's last", x.led(4, 8, 1), 1);
        Check.due("owner's first", x.led(5, 8, 1), 2);
    }

    private static void wrongInputs() {
        FloodTax x = land();
        Check.due("sheaves -1", x.sheaves(-1), -1);
        Check.due("sheaves 1001", x.sheaves(1001), -1);
        Check.due("sheaves 1000", x.sheaves(1000), 100);
        int[][] bad = {{-1, 0, 0}, {Integer.MIN_VALUE, 0, 1}, {Integer.MAX_VALUE, 0, 0}, {0, -1, 0}, {0, 1001, 0}, {0, 0, -1}, {0, 0, 2}};
        for (int[] b : bad) {
            Check.due("led " + b[0] + " " + b[1] + " " + b[2], x.led(b[0], b[1], b[2]), -1);
        }
        Check.due("led without strips", new FloodTax().led(0, 0, 0), -1);
        Check.due("status is not touched", x.status(), 0);
    }

    private static void most() {
        FloodTax x = new FloodTax();
        x.table(7, 0, 100);
        for (int i = 0; i < 24; i++) {
            x.strip(1, 0, 0);
            x.draw(i, i + 1, 10000);
        }
        Check.due("widths", x.count(6), 240000);
        Check.due("sheaves", x.sheaves(0), 24000000);
        Check.due("the last one", x.led(23999999, 0, 0), 23);
        Check.due("behind it", x.led(24000000, 0, 0), -1);
    }
}
