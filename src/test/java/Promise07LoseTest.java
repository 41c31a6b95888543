/** Promise 7, lose: its bounds, sentence by sentence. */
public final class Promise07LoseTest {
    public static void main(String[] args) {
        noSuchMark();
        withoutStrips();
        oneStrip();
        rocks();
        fullLand();
        lostAlready();
        drawnAgain();
        refusedChangesNothing();
        Check.finish();
    }

    private static void noSuchMark() {
        Check.sentence("7: -2 there is no such MARK (0 .. n)");
        FloodTax x = Lands.ofWidths(1, 1, 1);
        Check.due("lose(-1)", x.lose(-1), -2);
        Check.due("status", x.status(), -2);
        Check.due("lose(0)", x.lose(0), -3);
        Check.due("lose(3)", x.lose(3), -3);
        Check.due("lose(4)", x.lose(4), -2);
        Check.due("status", x.status(), -2);
        Check.due("lose, least", x.lose(Integer.MIN_VALUE), -2);
        Check.due("lose, most", x.lose(Integer.MAX_VALUE), -2);
    }

    private static void withoutStrips() {
        Check.sentence("II: without STRIPS there are none");
        Check.due("lose(-1)", new FloodTax().lose(-1), -2);
        Check.due("lose(0)", new FloodTax().lose(0), -2);
        Check.due("lose(1)", new FloodTax().lose(1), -2);
    }

    private static void oneStrip() {
        Check.sentence("II: of one STRIP both MARKS are rocks");
        FloodTax x = Lands.ofWidths(1);
        Check.due("lose(0)", x.lose(0), -3);
        Check.due("lose(1)", x.lose(1), -3);
        Check.due("lose(2)", x.lose(2), -2);
    }

    private static void rocks() {
        Check.sentence("7: -3 a rock (0 and n)");
        FloodTax x = Lands.ofWidths(1, 1, 1);
        Check.due("lose(0)", x.lose(0), -3);
        Check.due("status", x.status(), -3);
        Check.due("lose(1)", x.lose(1), 0);
        Check.due("status", x.status(), 0);
        Check.due("lose(2)", x.lose(2), 0);
        Check.due("lose(3)", x.lose(3), -3);
        Check.due("the rocks stand", x.stands(0) + x.stands(3), 2);
        Check.due("those between do not", x.stands(1) + x.stands(2), 0);
    }

    private static void fullLand() {
        Check.sentence("II: MARKS 0 .. 24 of 24 STRIPS");
        FloodTax x = Lands.full();
        Check.due("lose(1)", x.lose(1), 0);
        Check.due("lose(23)", x.lose(23), 0);
        Check.due("lose(24)", x.lose(24), -3);
        Check.due("lose(25)", x.lose(25), -2);
    }

    private static void lostAlready() {
        Check.sentence("7: -3 LOST already");
        FloodTax x = Lands.ofWidths(1, 1, 1);
        Check.due("lose(1)", x.lose(1), 0);
        Check.due("lose(1) again", x.lose(1), -3);
        Check.due("status", x.status(), -3);
        Check.due("it stays lost", x.stands(1), 0);
        Check.due("count(2)", x.count(2), 1);
        Check.due("another", x.lose(2), 0);
    }

    private static void drawnAgain() {
        Check.sentence("7: a MARK that was DRAWN again may be LOST again");
        FloodTax x = Lands.ofWidths(1, 1);
        x.lose(1);
        x.draw(0, 2, 2);
        Check.due("lose(1)", x.lose(1), 0);
        Check.due("stands(1)", x.stands(1), 0);
    }

    private static void refusedChangesNothing() {
        Check.sentence("7: when it is refused no MARK is LOST");
        FloodTax x = Lands.ofWidths(1, 1);
        for (int mark : new int[] {-1, 0, 2, 3}) {
            x.lose(mark);
        }
        Check.due("count(2)", x.count(2), 0);
        for (int mark = 0; mark <= 2; mark++) {
            Check.due("stands(" + mark + ")", x.stands(mark), 1);
        }
    }
}
