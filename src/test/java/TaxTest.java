/** Promise 18: tax. */
public final class TaxTest {
    public static void main(String[] args) {
        withoutDecrees();
        taxByPeak();
        freed();
        relieved();
        firstOfAll();
        officersPart();
        asKnown();
        greatest();
        wrongInputs();
        Check.finish();
    }

    /** Strip 0 of 100 ropes, always wet; one sheaf a rope. */
    private static FloodTax land(String text) {
        FloodTax x = new FloodTax();
        x.strip(100, 0, 0);
        x.table(7, 0, 1);
        Check.holds("decrees of " + text, Texts.decree(x, text) >= 0);
        return x;
    }

    private static void parts(String when, FloodTax x, int known, int... want) {
        for (int what = 0; what < want.length; what++) {
            Check.due(when + ": tax(0, " + known + ", " + what + ")", x.tax(0, known, what), want[what]);
        }
    }

    private static void withoutDecrees() {
        parts("no decrees", land(""), 0, 0, 0, 0, 0, 100);
        parts("no tax", land("free 0;relief 1 of 1 below 500;officer 1 of 1"), 0, 0, 0, 0, 0, 100);
    }

    private static void taxByPeak() {
        FloodTax x = land("tax 1 of 3 from 10; tax 1 of 2 from 20; tax 1 of 7 from 10; tax 1 of 1 from 400");
        parts("none from 0", x, 0, 0, 0, 0, 0, 100);
        x.read(50, 9, 1);
        x.read(50, 10, 2);
        x.read(50, 19, 3);
        x.read(50, 20, 4);
        x.read(50, 399, 5);
        x.read(50, 400, 6);
        parts("peak 9", x, 1, 0);
        parts("peak 10: the last of alike ones", x, 2, 14, 0, 0, 14, 86);
        parts("peak 19", x, 3, 14);
        parts("peak 20: the greatest, not the last", x, 4, 50, 0, 0, 50, 50);
        parts("peak 399", x, 5, 50);
        parts("peak 400", x, 6, 100, 0, 0, 100, 0);
    }

    private static void freed() {
        parts("below free", land("tax 1 of 2 from 0; free 101"), 0, 0, 0, 0, 0, 100);
        parts("not below free", land("free 100; tax 1 of 2 from 0"), 0, 50);
        parts("the last free is low", land("free 101; tax 1 of 2 from 0; free 5"), 0, 50);
        parts("the last free is high", land("free 5; tax 1 of 2 from 0; free 101"), 0, 0);
    }

    private static void relieved() {
        FloodTax x = new FloodTax();
        x.strip(100, 10, 0);
        x.table(7, 0, 1);
        x.read(0, 10, 0);
        x.read(20, 0, 0);
        Check.due("wet", x.wet(0, 0), 20);
        String[] texts = {"relief 1 of 3 below 20", "relief 1 of 3 below 21",
            "relief 1 of 3 below 21; relief 1 of 2 below 22; relief 1 of 5 below 20",
            "relief 1 of 2 below 22; relief 1 of 3 below 21",
            "relief 1 of 3 below 21; relief 1 of 4 below 21", "relief 0 of 9 below 120", "relief 9 of 9 below 10000"};
        int[] want = {0, 16, 16, 16, 12, 0, 50};
        for (int i = 0; i < texts.length; i++) {
            Texts.decree(x, "tax 1 of 2 from 0; officer 1 of 10;" + texts[i]);
            int net = 50 - want[i];
            parts(texts[i], x, 0, net, want[i], net / 10, net - net / 10, 100 - net);
        }
    }

    private static void firstOfAll() {
        parts("relief first", land("relief 1 of 2 below 121; tax 1 of 2 from 0"), 0, 25, 25, 0, 25, 75);
        parts("officer first", land("officer 1 of 2; tax 1 of 2 from 0"), 0, 50, 0, 25, 25, 50);
        parts("free first", land("free 101; tax 1 of 2 from 0"), 0, 0);
    }

    private static void officersPart() {
        parts("cut", land("tax 99 of 100 from 0; officer 1 of 10"), 0, 99, 0, 9, 90, 1);
        parts("the last", land("officer 1 of 1; tax 99 of 100 from 0; officer 1 of 2"), 0, 99, 0, 49, 50, 1);
        parts("all", land("officer 1 of 1; tax 1 of 1 from 0"), 0, 100, 0, 100, 0, 0);
        parts("after relief", land("tax 1 of 1 from 0; relief 1 of 3 below 121; officer 1 of 2"), 0, 67, 33, 33, 34, 33);
    }

    private static void asKnown() {
        FloodTax x = new FloodTax();
        x.strip(10, 5, 0);
        x.table(7, 0, 1);
        x.table(6, 50, 4);
        Texts.decree(x, "tax 1 of 2 from 5; tax 1 of 5 from 0; relief 1 of 2 below 50");
        x.read(0, 5, 7);
        parts("dry", x, 6, 1, 1, 0, 1, 9);
        parts("wet", x, 7, 20, 0, 0, 20, 20);
        x.draw(0, 1, 3);
        parts("by the width on the land", x, 7, 6, 0, 0, 6, 6);
    }

    private static void greatest() {
        FloodTax x = new FloodTax();
        x.strip(1, 0, 0);
        x.draw(0, 1, 10000);
        x.table(7, 0, 100);
        Texts.decree(x, "tax 9999 of 10000 from 0; relief 1 of 10000 below 121; officer 9999 of 10000");
        parts("a million sheaves", x, 1000, 999801, 99, 999701, 100, 199);
    }

    private static void wrongInputs() {
        FloodTax x = land("tax 1 of 2 from 0");
        int[][] bad = {{-1, 0, 0}, {1, 0, 0}, {0, -1, 0}, {0, 1001, 0}, {0, 0, -1}, {0, 0, 5}};
        for (int[] b : bad) {
            Check.due("tax " + b[0] + " " + b[1] + " " + b[2], x.tax(b[0], b[1], b[2]), -1);
        }
        Check.due("status is not touched", x.status(), 0);
        Check.due("no strips", new FloodTax().tax(0, 0, 0), -1);
    }
}
