/** Promise 17, fault: its bounds, sentence by sentence. */
public final class Promise17FaultTest {
    public static void main(String[] args) {
        noneWithout();
        firstTokenThatCannotGoOn();
        placeOfTheToken();
        placeOfANumber();
        theEnd();
        theEndAfterCut();
        the21st();
        ofTheLatest();
        firstAndLastPlace();
        Check.finish();
    }

    private static void fault(String text, int want) {
        FloodTax x = new FloodTax();
        Check.due("\"" + text + "\"", Texts.decree(x, text), -6);
        Check.due("\"" + text + "\" fault", x.fault(), want);
    }

    private static void noneWithout() {
        Check.sentence("17: NONE without");
        FloodTax x = new FloodTax();
        Check.due("ahead of any", x.fault(), -1);
        x.decrees();
        Check.due("an empty text", x.fault(), -1);
        Texts.decree(x, " ");
        Check.due("blanks alone", x.fault(), -1);
        Texts.decree(x, "free 1");
        Check.due("a right text", x.fault(), -1);
        Check.due("status is left", x.status(), 0);
    }

    private static void firstTokenThatCannotGoOn() {
        Check.sentence("IV: the first TOKEN that can't go on there");
        fault("x x x", 0);
        fault("free x;x", 5);
        fault("free 1 x;free x", 7);
        fault("free 1;x", 7);
        fault("tax of", 4);
        fault("tax 1 1", 6);
        fault("tax 1 of of", 9);
        fault("tax 1 of 2 of", 11);
        fault("tax 1 of 2 from from", 16);
        fault("tax 1 of 2 from 3 4", 18);
        fault("relief below", 7);
        fault("relief 1 below", 9);
        fault("relief 1 of ;", 12);
        fault("relief 1 of 2 from", 14);
        fault("relief 1 of 2 below x", 20);
        fault("officer x", 8);
        fault("officer 1 x", 10);
        fault("officer 1 of x", 13);
        fault("officer 1 of 2 x", 15);
        fault("free free", 5);
        fault("free 1;;", 7);
        fault("free 1; 1", 8);
    }

    private static void placeOfTheToken() {
        Check.sentence("IV: a TOKEN begins at the first byte of its longest row");
        fault("   abc", 3);
        fault("freea 1", 0);
        fault("freez 1", 0);
        fault("free`1", 4);
        fault("free{1", 4);
        fault("free/1", 4);
        fault("free:1", 4);
        fault("free 0z", 6);
        fault("free 9a", 6);
        fault("free 1/", 6);
        fault("free 1:", 6);
        fault("free1x", 5);
        fault("free 1x2", 6);
        fault("free 1;abc", 7);
        fault("free 1 123", 7);
        fault("free  \t1", 6);
        fault("free!!1", 4);
    }

    private static void placeOfANumber() {
        Check.sentence("IV: a NUMBER that can't be there");
        fault("free 10001", 5);
        fault("free  00010001", 6);
        fault("tax 10001 of 10001 from 10001", 4);
        fault("tax 1 of 10001 from 10001", 9);
        fault("tax 1 of 2 from 10001", 16);
        fault("tax 0 of 0 from 0", 9);
        fault("tax 2 of 1 from 0", 9);
        fault("relief 3 of 2 below 10001", 12);
        fault("relief 1 of 2 below 10001", 20);
        fault("officer 0 of 0", 13);
        fault("officer 12 of 11", 14);
    }

    private static void theEnd() {
        Check.sentence("IV: the end's: the TEXT's length");
        for (String text : new String[] {"free", "tax", "tax 1", "tax 1 of", "tax 1 of 2", "tax 1 of 2 from", "relief 1 of 2 below",
            "officer", "officer 1", "officer 1 of", "free 1;", "free 1;tax"}) {
            fault(text, text.length());
            fault(text + " ", text.length() + 1);
            fault(text + "   ", text.length() + 3);
        }
        fault(" ".repeat(196) + "free", 200);
        fault("free" + " ".repeat(196), 200);
        fault(" ".repeat(195) + "free", 199);
    }

    private static void theEndAfterCut() {
        Check.sentence("17: the TEXT has the bytes that end(n) left");
        FloodTax x = new FloodTax();
        Texts.put(x, "free 1;free 2");
        x.end(11);
        x.decrees();
        Check.due("end(11)", x.fault(), 11);
        Texts.put(x, "free 1;free 2");
        x.end(12);
        x.decrees();
        Check.due("end(12)", x.fault(), 12);
    }

    private static void the21st() {
        Check.sentence("IV: the 21st's first TOKEN");
        fault("free 1;".repeat(20) + "free 1", 140);
        fault("free 1;".repeat(20) + "   free 1", 143);
        fault("free 1;".repeat(20) + "x", 140);
        fault("free 1;".repeat(21) + "free 1", 140);
        fault("free 1;".repeat(20), 140);
        fault("free 1;".repeat(20) + "  ", 142);
        fault("free 1;".repeat(19) + "free 1 free 1", 140);
        fault("free 1;".repeat(19) + "x", 133);
    }

    private static void ofTheLatest() {
        Check.sentence("17: FAULT of the latest decrees()");
        FloodTax x = new FloodTax();
        Texts.decree(x, "free x");
        Check.due("the first", x.fault(), 5);
        Check.due("asked again", x.fault(), 5);
        x.read(0, 0, 0);
        x.read(-1, 0, 0);
        Texts.put(x, "x");
        Check.due("not by what is on the tape", x.fault(), 5);
        x.decrees();
        Check.due("the second", x.fault(), 0);
        Texts.decree(x, "free 1");
        Check.due("a right one", x.fault(), -1);
    }

    private static void firstAndLastPlace() {
        Check.sentence("17: its place, from 0 on");
        fault(";", 0);
        fault(" ;", 1);
        fault(" ".repeat(198) + ";", 198);
        fault(" ".repeat(199) + ";", 199);
        fault("z".repeat(200), 0);
        fault("free " + "9".repeat(195), 5);
    }
}
