/** Promises 14 to 17: feed, end, decrees, fault. */
public final class DecreeTest {
    public static void main(String[] args) {
        feedAndEnd();
        byteOrder();
        goodTexts();
        faults();
        faultStaysUntilNext();
        mostDecrees();
        longTexts();
        Check.finish();
    }

    private static void feedAndEnd() {
        FloodTax x = new FloodTax();
        Check.due("end 0", x.end(0), 0);
        Check.due("end 1 of none", x.end(1), -1);
        for (int i = 1; i <= 10; i++) {
            Check.due("feed " + i, x.feed(0, 0, 0, 0, 0), 20 * i);
        }
        Check.due("feed 11", x.feed(0, 0, 0, 0, 0), -1);
        Check.due("bytes", x.count(5), 200);
        Check.due("end -1", x.end(-1), -1);
        Check.due("end 201", x.end(201), -1);
        Check.due("end 200", x.end(200), 200);
        Check.due("end 181", x.end(181), 181);
        Check.due("no room for twenty", x.feed(0, 0, 0, 0, 0), -1);
        Check.due("none came", x.count(5), 181);
        Check.due("end 180", x.end(180), 180);
        Check.due("room for twenty", x.feed(0, 0, 0, 0, 0), 200);
        Check.due("end 3", x.end(3), 3);
        Check.due("end 4 of 3", x.end(4), -1);
        Check.due("status is not touched", x.status(), 0);
    }

    private static void byteOrder() {
        FloodTax x = new FloodTax();
        x.feed(0x66726565, 0x20203132, 0x20202020, 0x20202020, 0x20202020);
        Check.due("free  12", x.decrees(), 1);
        x.strip(1, 0, 0);
        x.feed(0x20202020, 0x20202020, 0x20202020, 0x20202020, 0x202020FF);
        Check.due("byte 255", x.decrees(), -6);
        Check.due("at the last place", x.fault(), 19);
        x.feed(0x80000000, 0, 0, 0, 0);
        Check.due("byte 128", x.decrees(), -6);
        Check.due("at the first place", x.fault(), 0);
    }

    private static void good(String text, int want) {
        FloodTax x = new FloodTax();
        Check.due("\"" + text + "\"", Texts.decree(x, text), want);
        Check.due("\"" + text + "\" fault", x.fault(), -1);
        Check.due("\"" + text + "\" count", x.count(3), want);
        Check.due("\"" + text + "\" status", x.status(), 0);
        Check.due("\"" + text + "\" tape", x.count(5), 0);
    }

    private static void goodTexts() {
        good("", 0);
        good("   ", 0);
        good("tax 1 of 2 from 3", 1);
        good("relief 1 of 2 below 3", 1);
        good("free 4", 1);
        good("officer 1 of 2", 1);
        good("tax1of2from3;relief1of2below3;free4;officer1of2", 4);
        good("  free  4  ;  free  5  ", 2);
        good("tax 0 of 1 from 0", 1);
        good("tax 10000 of 10000 from 10000", 1);
        good("relief 5 of 5 below 10000", 1);
        good("free 0", 1);
        good("free 10000", 1);
        good("free 0000000000000000000000000000000010000", 1);
        good("officer 0 of 1;officer 1 of 1", 2);
    }

    private static void faulty(String text, int place) {
        FloodTax x = new FloodTax();
        Texts.decree(x, "free 1;free 2");
        Check.due("\"" + text + "\"", Texts.decree(x, text), -6);
        Check.due("\"" + text + "\" fault", x.fault(), place);
        Check.due("\"" + text + "\" they stay", x.count(3), 2);
        Check.due("\"" + text + "\" status", x.status(), -6);
        Check.due("\"" + text + "\" tape", x.count(5), 0);
    }

    private static void faults() {
        faulty(";", 0);
        faulty("  ;", 2);
        faulty("x", 0);
        faulty("Free 1", 0);
        faulty("frees 1", 0);
        faulty("fre 1", 0);
        faulty("tree 1", 0);
        faulty("fret 1", 0);
        faulty("freez 1", 0);
        faulty("freea 1", 0);
        faulty("free{1", 4);
        faulty("free`1", 4);
        faulty("free/1", 4);
        faulty("free:1", 4);
        faulty("free 1/", 6);
        faulty("free 1:", 6);
        faulty("7", 0);
        faulty("free", 4);
        faulty("free   ", 7);
        faulty("free x", 5);
        faulty("free -1", 5);
        faulty("free 10001", 5);
        faulty("free 99999999999999999999999999", 5);
        faulty("free 4294967297", 5);
        faulty("free 1 2", 7);
        faulty("free 1 free 2", 7);
        faulty("free 1;", 7);
        faulty("free 1 ;  ", 10);
        faulty("free 1;;free 2", 7);
        faulty("free 1;of", 7);
        faulty("free 1,free 2", 6);
        faulty("free\t1", 4);
        faulty("fr ee 1", 0);
        faulty("free 1 of 2", 7);
        faulty("tax", 3);
        faulty("tax 1", 5);
        faulty("tax 1 from", 6);
        faulty("tax 1 off 2", 6);
        faulty("tax 1 of", 8);
        faulty("tax 0 of 0 from 1", 9);
        faulty("tax 3 of 2 from 1", 9);
        faulty("tax 3 of 10001 from 1", 9);
        faulty("tax 10001 of 10001 from 1", 4);
        faulty("tax 1 of 2", 10);
        faulty("tax 1 of 2 below 3", 11);
        faulty("tax 1 of 2 from", 15);
        faulty("tax 1 of 2 from of", 16);
        faulty("tax 1 of 2 from 10001", 16);
        faulty("tax 1 of 2 from 1 below 2", 18);
        faulty("relief 1 of 2 from 3", 14);
        faulty("relief 3 of 2 below 3", 12);
        faulty("relief 1 of 2 below;", 19);
        faulty("officer 1 of 0", 13);
        faulty("officer 1 of 2 from 3", 15);
        faulty("officer of 2", 8);
        faulty("officer 1;", 9);
        faulty("free 1;tax 2 of 1 from 0", 16);
    }

    private static void faultStaysUntilNext() {
        FloodTax x = new FloodTax();
        x.strip(100, 0, 0);
        x.table(7, 0, 1);
        Texts.decree(x, "tax 1 of 2 from 0");
        Check.due("taxed", x.tax(0, 0, 0), 50);
        Texts.decree(x, "tax 1 of 4 from 0; x");
        Check.due("fault", x.fault(), 19);
        Check.due("they stay", x.tax(0, 0, 0), 50);
        x.read(0, 0, 0);
        Check.due("fault stays", x.fault(), 19);
        Check.due("empty tape", x.decrees(), 0);
        Check.due("fault is gone", x.fault(), -1);
        Check.due("decrees are gone", x.tax(0, 0, 0), 0);
        Texts.decree(x, "tax 1 of 4 from 0");
        Check.due("new ones", x.tax(0, 0, 0), 25);
        Texts.decree(x, "free 0; officer 1 of 1; x");
        Texts.decree(x, "tax 1 of 4 from 0");
        Check.due("nothing of the ones ahead", x.tax(0, 0, 2), 0);
    }

    private static String times(int n, String text) {
        StringBuilder all = new StringBuilder();
        for (int i = 0; i < n; i++) {
            all.append(text);
        }
        return all.toString();
    }

    private static void mostDecrees() {
        good(times(19, "free 1;") + "free 1", 20);
        faulty(times(20, "free 1;") + "free 1", 140);
        faulty(times(20, "free 1;") + "  x", 142);
        faulty(times(20, "free 1;") + "  ", 142);
        faulty(times(19, "free 1;") + "free 1 free 1", 140);
    }

    private static void longTexts() {
        good(times(194, " ") + "free 1", 1);
        good("free " + times(194, "0") + "9", 1);
        faulty(times(195, " ") + "free ", 200);
        faulty("free " + times(195, "9"), 5);
        faulty(times(200, "a"), 0);
        faulty(times(199, " ") + ";", 199);
    }
}
