/** Promise 8, draw: its bounds, sentence by sentence. */
public final class Promise08DrawTest {
    public static void main(String[] args) {
        bNotAboveA();
        ropes();
        noSuchMark();
        withoutStrips();
        badNumberAheadOfNoSuchMark();
        noSuchMarkAheadOfCannotBe();
        oneEndIsLost();
        oneBetweenStands();
        howManyMarks();
        cut();
        greatestRests();
        alikeRestsTheLower();
        oneEach();
        byTheRegister();
        othersStay();
        marksBetweenStandAgain();
        toTheLastRope();
        refusedChangesNothing();
        Check.finish();
    }

    /** Widths after all marks between were lost and so many ropes measured. */
    private static FloodTax drawn(int ropes, int... widths) {
        FloodTax x = Lands.ofWidths(widths);
        for (int mark = 1; mark < widths.length; mark++) {
            x.lose(mark);
        }
        Check.due("draw " + ropes, x.draw(0, widths.length, ropes), widths.length - 1);
        return x;
    }

    private static void parted(int ropes, int[] widths, int... want) {
        Lands.widths(ropes + " ropes", drawn(ropes, widths), want);
    }

    private static void bNotAboveA() {
        Check.sentence("8: -1 (b not above a)");
        FloodTax x = Lands.ofWidths(1, 1, 1);
        Check.due("b = a - 1", x.draw(2, 1, 5), -1);
        Check.due("status", x.status(), -1);
        Check.due("b = a", x.draw(2, 2, 5), -1);
        Check.due("b = a + 1", x.draw(2, 3, 5), 0);
        Check.due("both 0", x.draw(0, 0, 5), -1);
        Check.due("both the last", x.draw(3, 3, 5), -1);
        Check.due("the farthest", x.draw(Integer.MAX_VALUE, Integer.MIN_VALUE, 5), -1);
    }

    private static void ropes() {
        Check.sentence("II: so many ropes (0 .. 10,000)");
        FloodTax x = Lands.ofWidths(1);
        Check.bounds("draw ropes", 0, 10000, ropes -> x.draw(0, 1, ropes), 0, -1);
        x.draw(0, 1, 10000);
        Check.due("10000 are kept", x.of(0, 0), 10000);
        x.draw(0, 1, 0);
        Check.due("0 are kept", x.of(0, 0), 0);
    }

    private static void noSuchMark() {
        Check.sentence("8: -2 there is no such MARK (0 .. n)");
        FloodTax x = Lands.ofWidths(1, 1);
        x.lose(1);
        Check.due("a -1", x.draw(-1, 2, 5), -2);
        Check.due("status", x.status(), -2);
        Check.due("b 3", x.draw(0, 3, 5), -2);
        Check.due("both below", x.draw(-2, -1, 5), -2);
        Check.due("both above", x.draw(3, 4, 5), -2);
        Check.due("the farthest", x.draw(Integer.MIN_VALUE, Integer.MAX_VALUE, 5), -2);
        Check.due("0 and 2", x.draw(0, 2, 5), 1);
        Check.due("25 of 24 strips", Lands.full().draw(24, 25, 5), -2);
        Check.due("24 of 24 strips", Lands.full().draw(23, 24, 5), 0);
    }

    private static void withoutStrips() {
        Check.sentence("II: without STRIPS there are no MARKS");
        Check.due("draw(0, 1, 1)", new FloodTax().draw(0, 1, 1), -2);
        Check.due("draw(-1, 0, 1)", new FloodTax().draw(-1, 0, 1), -2);
        Check.due("draw(0, 0, 1)", new FloodTax().draw(0, 0, 1), -1);
    }

    private static void badNumberAheadOfNoSuchMark() {
        Check.sentence("REFUSED by -1 ahead of -2 and -3");
        FloodTax x = Lands.ofWidths(1, 1, 1);
        x.lose(1);
        Check.due("no such marks, b = a", x.draw(4, 4, 5), -1);
        Check.due("no such marks, b below a", x.draw(-1, -2, 5), -1);
        Check.due("no such mark, ropes -1", x.draw(0, 4, -1), -1);
        Check.due("no such mark, ropes 10001", x.draw(-1, 1, 10001), -1);
        Check.due("a lost end, ropes -1", x.draw(1, 2, -1), -1);
        Check.due("a lost mark, b = a", x.draw(1, 1, 5), -1);
    }

    private static void noSuchMarkAheadOfCannotBe() {
        Check.sentence("REFUSED by -2 ahead of -3");
        FloodTax x = Lands.ofWidths(1, 1, 1);
        x.lose(1);
        Check.due("a is lost, b is none", x.draw(1, 4, 5), -2);
        Check.due("a is none, b is lost", x.draw(-1, 1, 5), -2);
        Check.due("b is none, one between stands", x.draw(0, 4, 5), -2);
        Check.due("status", x.status(), -2);
    }

    private static void oneEndIsLost() {
        Check.sentence("8: -3 one of both is LOST");
        FloodTax x = Lands.ofWidths(1, 1, 1, 1);
        Lands.lose(x, 1, 2);
        Check.due("a lost, all between too", x.draw(1, 3, 5), -3);
        Check.due("status", x.status(), -3);
        Check.due("b lost, all between too", x.draw(0, 2, 5), -3);
        Check.due("both lost, none between", x.draw(1, 2, 5), -3);
        Check.due("a lost, none between", x.draw(2, 3, 5), -3);
        Check.due("b lost, none between", x.draw(0, 1, 5), -3);
        Check.due("none of both", x.draw(0, 3, 5), 2);
    }

    private static void oneBetweenStands() {
        Check.sentence("8: -3 one between stands");
        for (int standing = 1; standing <= 3; standing++) {
            FloodTax x = Lands.ofWidths(1, 1, 1, 1);
            for (int mark = 1; mark <= 3; mark++) {
                if (mark != standing) {
                    x.lose(mark);
                }
            }
            Check.due("all but " + standing, x.draw(0, 4, 5), -3);
            Check.due("status", x.status(), -3);
            x.lose(standing);
            Check.due(standing + " too", x.draw(0, 4, 5), 3);
        }
    }

    private static void howManyMarks() {
        Check.sentence("8: how many MARKS");
        Check.due("none between", Lands.ofWidths(1).draw(0, 1, 1), 0);
        FloodTax x = Lands.ofWidths(1, 1, 1);
        x.lose(1);
        Check.due("one", x.draw(0, 2, 1), 1);
        Check.due("status", x.status(), 0);
        Lands.lose(x, 1, 2);
        Check.due("two", x.draw(0, 3, 1), 2);
        x = Lands.full();
        for (int mark = 1; mark < 24; mark++) {
            x.lose(mark);
        }
        Check.due("23", x.draw(0, 24, 1), 23);
        Check.due("none is lost", x.count(2), 0);
    }

    private static void cut() {
        Check.sentence("II: ropes times its WIDTH / all of these together, cut");
        parted(0, new int[] {3, 5}, 0, 0);
        parted(8, new int[] {3, 5}, 3, 5);
        parted(16, new int[] {3, 5}, 6, 10);
        // 27 / 8 and 45 / 8: 3 and 5, rests 3 and 5
        parted(9, new int[] {3, 5}, 3, 6);
        // 21 / 8 and 35 / 8: 2 and 4, rests 5 and 3
        parted(7, new int[] {3, 5}, 3, 4);
        parted(10000, new int[] {400}, 10000);
        parted(10000, new int[] {400, 400}, 5000, 5000);
    }

    private static void greatestRests() {
        Check.sentence("II: of what is left one each those with the greatest rests");
        parted(1, new int[] {1, 2}, 0, 1);
        parted(1, new int[] {2, 1}, 1, 0);
        parted(2, new int[] {1, 2}, 1, 1);
        parted(2, new int[] {2, 1}, 1, 1);
        parted(1, new int[] {1, 1, 2}, 0, 0, 1);
        parted(1, new int[] {1, 2, 1}, 0, 1, 0);
        parted(1, new int[] {2, 1, 1}, 1, 0, 0);
        // rests 199 and 200 of 399; then 398 and 1
        parted(1, new int[] {199, 200}, 0, 1);
        parted(2, new int[] {199, 200}, 1, 1);
    }

    private static void alikeRestsTheLower() {
        Check.sentence("II: of alike ones the lower");
        parted(0, new int[] {1, 1, 1}, 0, 0, 0);
        parted(1, new int[] {1, 1, 1}, 1, 0, 0);
        parted(2, new int[] {1, 1, 1}, 1, 1, 0);
        parted(3, new int[] {1, 1, 1}, 1, 1, 1);
        parted(4, new int[] {1, 1, 1}, 2, 1, 1);
        parted(1, new int[] {2, 1, 2}, 1, 0, 0);
        parted(1, new int[] {1, 2, 2}, 0, 1, 0);
    }

    private static void oneEach() {
        Check.sentence("II: one each");
        // rests 4, 3 and 3 of 5, two ropes left
        parted(4, new int[] {1, 2, 2}, 1, 2, 1);
        // rests 2, 6, 6 of 7, two ropes left
        parted(2, new int[] {1, 3, 3}, 0, 1, 1);
        parted(23, new int[] {1, 1, 1, 1, 1, 1, 1, 1, 1, 1, 1, 1, 1, 1, 1, 1, 1, 1, 1, 1, 1, 1, 1, 1},
            1, 1, 1, 1, 1, 1, 1, 1, 1, 1, 1, 1, 1, 1, 1, 1, 1, 1, 1, 1, 1, 1, 1, 0);
    }

    private static void byTheRegister() {
        Check.sentence("II: parted by WIDTHS of the REGISTER");
        FloodTax x = Lands.ofWidths(1, 3);
        x.draw(0, 1, 300);
        x.draw(1, 2, 100);
        x.lose(1);
        x.draw(0, 2, 40);
        Lands.widths("not by those on the land", x, 10, 30);
        x.lose(1);
        x.draw(0, 2, 0);
        x.lose(1);
        Check.due("from no ropes at all", x.draw(0, 2, 4), 1);
        Lands.widths("from no ropes at all", x, 1, 3);
    }

    private static void othersStay() {
        Check.sentence("II: the WIDTHS of STRIPS a .. b - 1");
        FloodTax x = Lands.ofWidths(1, 1, 1, 1, 1);
        Lands.lose(x, 2, 3);
        x.draw(1, 4, 30);
        Lands.widths("a 1, b 4", x, 1, 10, 10, 10, 1);
        x.draw(4, 5, 7);
        Lands.widths("a 4, b 5", x, 1, 10, 10, 10, 7);
        x.draw(0, 1, 8);
        Lands.widths("a 0, b 1", x, 8, 10, 10, 10, 7);
    }

    private static void marksBetweenStandAgain() {
        Check.sentence("II: the MARKS between stand again then");
        FloodTax x = Lands.ofWidths(1, 1, 1, 1, 1, 1);
        Lands.lose(x, 1, 3, 5);
        Check.due("draw(2, 4, 2)", x.draw(2, 4, 2), 1);
        int[] want = {1, 0, 1, 1, 1, 0, 1};
        for (int mark = 0; mark < want.length; mark++) {
            Check.due("stands(" + mark + ")", x.stands(mark), want[mark]);
        }
        Check.due("count(2)", x.count(2), 2);
    }

    private static void toTheLastRope() {
        Check.sentence("8: to the last rope");
        int[] widths = {400, 399, 1, 7, 400, 13, 250, 99, 3, 400, 400, 2, 1, 1, 77, 31, 400, 398, 5, 11, 400, 400, 400, 397};
        for (int ropes : new int[] {0, 1, 22, 23, 24, 9999, 10000}) {
            Check.due("all of " + ropes, drawn(ropes, widths).count(6), ropes);
        }
    }

    private static void refusedChangesNothing() {
        Check.sentence("8: when it is refused all stays");
        FloodTax x = Lands.ofWidths(5, 6, 7, 8);
        Lands.lose(x, 1, 2);
        int[][] bad = {{0, 3, -1}, {0, 3, 10001}, {3, 0, 9}, {0, 5, 9}, {-1, 3, 9}, {0, 2, 9}, {1, 3, 9}, {0, 4, 9}};
        for (int[] b : bad) {
            Check.holds("draw " + b[0] + " " + b[1] + " " + b[2] + " is refused", x.draw(b[0], b[1], b[2]) < 0);
        }
        Lands.widths("all stays", x, 5, 6, 7, 8);
        Check.due("count(2)", x.count(2), 2);
    }
}
