/** Promise 16, decrees: its bounds, sentence by sentence. */
public final class Promise16DecreesTest {
    public static void main(String[] args) {
        blanksAlone();
        emptyThen();
        longestText();
        eachKind();
        anyBlanksBetweenTokens();
        letters();
        wholeWords();
        digits();
        singleOtherBytes();
        numbersTo10000();
        longNumbers();
        behindOf1AtLeast();
        behindOfNotBelow();
        oneOrMore();
        mostDecrees();
        theyStay();
        theyAreReplaced();
        Check.finish();
    }

    private static void answers(String text, int want) {
        FloodTax x = new FloodTax();
        Check.due("\"" + text + "\"", Texts.decree(x, text), want);
        Check.due("\"" + text + "\" count(3)", x.count(3), Math.max(want, 0));
        Check.due("\"" + text + "\" status", x.status(), Math.min(want, 0));
    }

    private static void blanksAlone() {
        Check.sentence("16: blanks alone: none");
        for (int n : new int[] {0, 1, 2, 199, 200}) {
            FloodTax x = new FloodTax();
            Texts.decree(x, "free 1");
            Check.due(n + " blanks", Texts.decree(x, " ".repeat(n)), 0);
            Check.due(n + " blanks: count(3)", x.count(3), 0);
            Check.due(n + " blanks: status", x.status(), 0);
        }
        answers(" ;", -6);
    }

    private static void emptyThen() {
        Check.sentence("16: the TAPE, which is empty then");
        FloodTax x = new FloodTax();
        Texts.decree(x, "free 1");
        Check.due("taken", x.count(5), 0);
        Texts.decree(x, "free");
        Check.due("refused", x.count(5), 0);
        Check.due("nothing of it is left", x.decrees(), 0);
    }

    private static void longestText() {
        Check.sentence("IV: a TEXT of at most 200 bytes");
        answers(" ".repeat(193) + "free 1", 1);
        answers(" ".repeat(194) + "free 1", 1);
        answers("free 1" + " ".repeat(194), 1);
        answers("free 1" + " ".repeat(193) + ";", -6);
        answers(" ".repeat(199) + "x", -6);
    }

    private static void eachKind() {
        Check.sentence("IV: DECREE: tax | relief | free | officer");
        answers("tax 1 of 2 from 3", 1);
        answers("relief 1 of 2 below 3", 1);
        answers("free 1", 1);
        answers("officer 1 of 2", 1);
        answers("tax 1 of 2 from 3;relief 1 of 2 below 3;free 1;officer 1 of 2", 4);
        answers("tax 1 of 2", -6);
        answers("tax 1 of 2 below 3", -6);
        answers("relief 1 of 2", -6);
        answers("relief 1 of 2 from 3", -6);
        answers("free 1 of 2", -6);
        answers("officer 1", -6);
        answers("officer 1 of 2 from 3", -6);
    }

    private static void anyBlanksBetweenTokens() {
        Check.sentence("IV: any blanks (32) between TOKENS");
        answers("tax1of2from3;free4", 2);
        answers("  tax  1  of  2  from  3  ;  free  4  ", 2);
        answers("t ax 1 of 2 from 3", -6);
        answers("tax 1 o f 2 from 3", -6);
        answers("free 1 2", -6);
        answers("free\t1", -6);
        answers("free\n1", -6);
        answers("free\0" + "1", -6);
        answers("free" + (char) 31 + "1", -6);
        answers("free" + (char) 33 + "1", -6);
        answers("free" + (char) 160 + "1", -6);
    }

    private static void letters() {
        Check.sentence("IV: longest rows of letters a .. z");
        answers("free1", 1);
        answers("freea1", -6);
        answers("freez1", -6);
        answers("fre1", -6);
        answers("free`1", -6);
        answers("free{1", -6);
        answers("Free 1", -6);
        answers("FREE 1", -6);
        answers("freefree 1", -6);
        answers("free 1;taxof", -6);
    }

    /** Each word with another first letter, another last one, one fewer and one more. */
    private static void wholeWords() {
        Check.sentence("IV: tax, of, from, relief, below, free, officer, to the letter");
        String text = "tax 1 of 2 from 3;relief 1 of 2 below 3;free 4;officer 1 of 2";
        answers(text, 4);
        for (String word : new String[] {"tax", "of", "from", "relief", "below", "free", "officer"}) {
            String rest = word.substring(1);
            String start = word.substring(0, word.length() - 1);
            for (String other : new String[] {"q" + rest, start + "q", rest, start, "q" + word, word + "q", word.toUpperCase()}) {
                answers(text.replaceFirst("\\b" + word + "\\b", other), -6);
            }
        }
    }

    private static void digits() {
        Check.sentence("IV: longest rows of digits");
        answers("free 0", 1);
        answers("free 9", 1);
        answers("free 90", 1);
        answers("free /", -6);
        answers("free :", -6);
        answers("free 1/", -6);
        answers("free 1:", -6);
        answers("free 10 000", -6);
        FloodTax x = Lands.bearing(11);
        Texts.decree(x, "tax 1 of 1 from 0;free 12");
        Check.due("12 is one number: 11 is below it", x.tax(0, 0, 0), 0);
        Texts.decree(x, "tax 1 of 1 from 0;free 11");
        Check.due("11 is not below it", x.tax(0, 0, 0), 11);
    }

    private static void singleOtherBytes() {
        Check.sentence("IV: single other bytes");
        answers("free 1;free 2", 2);
        answers("free 1;;free 2", -6);
        answers("free 1,free 2", -6);
        answers("free 1:free 2", -6);
        answers("free 1<free 2", -6);
        answers("free -1", -6);
        answers("free +1", -6);
        answers("free 1.", -6);
        answers("free 1" + (char) 255, -6);
    }

    /** Every place of a number in the language, with what it may be there at the least. */
    private static void numbersTo10000() {
        Check.sentence("IV: NUMBERS to 10,000");
        String[] forms = {"tax # of 10000 from 0", "tax 0 of # from 0", "tax 0 of 1 from #", "relief # of 10000 below 0",
            "relief 0 of # below 0", "relief 0 of 1 below #", "free #", "officer # of 10000", "officer 0 of #"};
        for (String form : forms) {
            answers(form.replace("#", "9999"), 1);
            answers(form.replace("#", "10000"), 1);
            answers(form.replace("#", "10001"), -6);
            answers(form.replace("#", "0"), form.contains("of #") ? -6 : 1);
            answers(form.replace("#", ""), -6);
        }
    }

    private static void longNumbers() {
        Check.sentence("IV: NUMBERS to 10,000, however long the row of digits");
        for (String number : new String[] {"65536", "99999", "100000", "2147483647", "2147483648", "4294967296", "4294967297",
            "9223372036854775808", "18446744073709551616", "18446744073709551617", "1" + "0".repeat(194)}) {
            answers("free " + number, -6);
        }
        answers("free " + "0".repeat(190) + "10000", 1);
        answers("free " + "0".repeat(190) + "10001", -6);
    }

    private static void behindOf1AtLeast() {
        Check.sentence("IV: behind \"of\" 1 at least");
        String[] forms = {"tax 0 of # from 0", "relief 0 of # below 0", "officer 0 of #"};
        for (String form : forms) {
            answers(form.replace("#", "0"), -6);
            answers(form.replace("#", "00"), -6);
            answers(form.replace("#", "1"), 1);
            answers(form.replace("#", "2"), 1);
        }
    }

    private static void behindOfNotBelow() {
        Check.sentence("IV: behind \"of\" not below the one ahead of it");
        String[] forms = {"tax 50 of # from 0", "relief 50 of # below 0", "officer 50 of #"};
        for (String form : forms) {
            answers(form.replace("#", "49"), -6);
            answers(form.replace("#", "50"), 1);
            answers(form.replace("#", "51"), 1);
        }
        answers("officer 10000 of 9999", -6);
        answers("officer 10000 of 10000", 1);
        answers("tax 50 of 60 from 40", 1);
    }

    private static void oneOrMore() {
        Check.sentence("IV: DECREE {\";\" DECREE}");
        answers(";", -6);
        answers("free 1;", -6);
        answers(";free 1", -6);
        answers("free 1 free 2", -6);
        answers("free 1", 1);
        answers("free 1;free 1", 2);
        answers("free 1;free 1;free 1", 3);
    }

    private static void mostDecrees() {
        Check.sentence("IV: 20 DECREES at most");
        answers("free 1;".repeat(18) + "free 1", 19);
        answers("free 1;".repeat(19) + "free 1", 20);
        answers("free 1;".repeat(20) + "free 1", -6);
        answers("free 1;".repeat(20), -6);
        FloodTax x = Lands.bearing(100);
        Texts.decree(x, "free 0;".repeat(18) + "tax 1 of 1 from 0;free 101");
        Check.due("the 20th counts", x.tax(0, 0, 0), 0);
        Texts.decree(x, "free 0;".repeat(19) + "tax 1 of 1 from 0");
        Check.due("the 20th, a tax", x.tax(0, 0, 0), 100);
    }

    private static void theyStay() {
        Check.sentence("16: -6: they stay");
        FloodTax x = Lands.bearing(100);
        Texts.decree(x, "tax 1 of 2 from 0;officer 1 of 5");
        for (String text : new String[] {"x", "free 101;", "free 101 free 1", "tax 1 of 1 from 0;officer 1 of 0", "free 101;".repeat(21)}) {
            Check.due("\"" + text + "\"", Texts.decree(x, text), -6);
            Check.due("count(3)", x.count(3), 2);
            Check.due("tax", x.tax(0, 0, 0), 50);
            Check.due("officer's part", x.tax(0, 0, 2), 10);
        }
    }

    private static void theyAreReplaced() {
        Check.sentence("16: the TAPE becomes the DECREES");
        FloodTax x = Lands.bearing(100);
        Texts.decree(x, "tax 1 of 2 from 0;officer 1 of 5");
        Texts.decree(x, "tax 1 of 4 from 0");
        Check.due("count(3)", x.count(3), 1);
        Check.due("tax", x.tax(0, 0, 0), 25);
        Check.due("no officer's part any more", x.tax(0, 0, 2), 0);
        x.decrees();
        Check.due("none", x.count(3), 0);
        Check.due("no tax any more", x.tax(0, 0, 0), 0);
    }
}
