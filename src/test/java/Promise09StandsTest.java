/** Promise 9, stands: its bounds, sentence by sentence. */
public final class Promise09StandsTest {
    public static void main(String[] args) {
        marks();
        fullLand();
        withoutStrips();
        rocks();
        lostAndDrawn();
        Check.finish();
    }

    private static void marks() {
        Check.sentence("II: MARKS 0 .. n of n STRIPS; NONE");
        FloodTax one = Lands.ofWidths(1);
        Check.bounds("stands, of one strip", 0, 1, one::stands, 1, -1);
        FloodTax three = Lands.ofWidths(1, 1, 1);
        Check.bounds("stands, of three", 0, 3, three::stands, 1, -1);
        Check.due("status is left", three.status(), 0);
    }

    private static void fullLand() {
        Check.sentence("9: MARKS 0 .. 24 of 24 STRIPS");
        FloodTax x = Lands.full();
        Check.bounds("stands, of 24", 0, 24, x::stands, 1, -1);
    }

    private static void withoutStrips() {
        Check.sentence("II: without STRIPS there are none");
        for (int mark = -1; mark <= 1; mark++) {
            Check.due("stands(" + mark + ")", new FloodTax().stands(mark), -1);
        }
    }

    private static void rocks() {
        Check.sentence("9: rocks stand, also when all between are LOST");
        FloodTax x = Lands.ofWidths(1, 1, 1);
        Lands.lose(x, 0, 1, 2, 3);
        int[] want = {1, 0, 0, 1};
        for (int mark = 0; mark < want.length; mark++) {
            Check.due("stands(" + mark + ")", x.stands(mark), want[mark]);
        }
    }

    private static void lostAndDrawn() {
        Check.sentence("9: whether a MARK stands: 1, 0");
        FloodTax x = Lands.ofWidths(1, 1);
        Check.due("at first", x.stands(1), 1);
        x.lose(1);
        Check.due("lost", x.stands(1), 0);
        x.draw(0, 2, 10001);
        Check.due("lost still, the draw was refused", x.stands(1), 0);
        x.draw(0, 2, 0);
        Check.due("drawn again", x.stands(1), 1);
    }
}
