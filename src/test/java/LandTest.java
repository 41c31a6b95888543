/** Promises 5 to 9: strip, of, lose, draw, stands. */
public final class LandTest {
    public static void main(String[] args) {
        strips();
        stripRefusals();
        losing();
        rocksMoveOn();
        drawRefusals();
        drawParts();
        drawByRegister();
        drawMost();
        Check.finish();
    }

    private static FloodTax land(int... widths) {
        FloodTax x = new FloodTax();
        for (int width : widths) {
            x.strip(width, 0, 0);
        }
        return x;
    }

    private static void widths(String when, FloodTax x, int... want) {
        for (int i = 0; i < want.length; i++) {
            Check.due(when + ": width " + i, x.of(i, 0), want[i]);
        }
    }

    private static void strips() {
        FloodTax x = new FloodTax();
        Check.due("first", x.strip(1, 0, 0), 0);
        Check.due("second", x.strip(400, 400, 19), 1);
        int[] want = {400, 400, 400, 19};
        for (int what = 0; what < 4; what++) {
            Check.due("of(1, " + what + ")", x.of(1, what), want[what]);
        }
        Check.due("of(0, 0)", x.of(0, 0), 1);
        Check.due("of(0, 2)", x.of(0, 2), 0);
        Check.due("of(0, 3)", x.of(0, 3), 0);
        Check.due("of what -1", x.of(0, -1), -1);
        Check.due("of what 4", x.of(0, 4), -1);
        Check.due("of strip -1", x.of(-1, 0), -1);
        Check.due("of strip 2", x.of(2, 0), -1);
        Check.due("of strip far", x.of(Integer.MAX_VALUE, 0), -1);
    }

    private static void stripRefusals() {
        FloodTax x = new FloodTax();
        int[][] bad = {{0, 0, 0}, {401, 0, 0}, {-1, 0, 0}, {1, -1, 0}, {1, 401, 0}, {1, 0, -1}, {1, 0, 20}};
        for (int[] b : bad) {
            Check.due("strip " + b[0] + " " + b[1] + " " + b[2], x.strip(b[0], b[1], b[2]), -1);
            Check.due("status", x.status(), -1);
        }
        Check.due("none was kept", x.count(1), 0);
        for (int i = 0; i < 24; i++) {
            Check.due("strip " + i, x.strip(1 + i, i, i % 20), i);
        }
        Check.due("strip 24", x.strip(1, 0, 0), -5);
        Check.due("status", x.status(), -5);
        Check.due("a bad number goes ahead", x.strip(0, 0, 0), -1);
        Check.due("count", x.count(1), 24);
        Check.due("the last strip", x.of(23, 0), 24);
        Check.due("no strip 24", x.of(24, 0), -1);
        Check.due("mark 24", x.stands(24), 1);
        Check.due("mark 25", x.stands(25), -1);
        Check.due("mark 24 is a rock", x.lose(24), -3);
        Check.due("mark 23 is none", x.lose(23), 0);
    }

    private static void losing() {
        FloodTax x = new FloodTax();
        Check.due("no marks without strips", x.lose(0), -2);
        Check.due("status", x.status(), -2);
        Check.due("stands without strips", x.stands(0), -1);
        x = land(5, 6, 7);
        Check.due("lose 0", x.lose(0), -3);
        Check.due("status", x.status(), -3);
        Check.due("lose 3", x.lose(3), -3);
        Check.due("lose -1", x.lose(-1), -2);
        Check.due("lose 4", x.lose(4), -2);
        Check.due("stands -1", x.stands(-1), -1);
        Check.due("stands 4", x.stands(4), -1);
        Check.due("stands 2", x.stands(2), 1);
        Check.due("lose 2", x.lose(2), 0);
        Check.due("status", x.status(), 0);
        Check.due("stands 2, lost", x.stands(2), 0);
        Check.due("lost already", x.lose(2), -3);
        Check.due("stands 0", x.stands(0), 1);
        Check.due("stands 3", x.stands(3), 1);
        Check.due("count of lost", x.count(2), 1);
        widths("while lost", x, 5, 6, 7);
    }

    private static void rocksMoveOn() {
        FloodTax x = land(5);
        Check.due("lose 1, a rock", x.lose(1), -3);
        x.strip(6, 0, 0);
        Check.due("1 stands still", x.stands(1), 1);
        Check.due("1 is no rock any more", x.lose(1), 0);
        Check.due("2 is", x.lose(2), -3);
        x.strip(7, 0, 0);
        Check.due("1 stays lost", x.stands(1), 0);
        Check.due("2 stands", x.stands(2), 1);
    }

    private static void drawRefusals() {
        Check.due("draw without strips", new FloodTax().draw(0, 1, 1), -2);
        FloodTax x = land(10, 10, 10, 10);
        x.lose(1);
        x.lose(2);
        int[][] calls = {{1, 1, 5, -1}, {3, 0, 5, -1}, {0, 3, -1, -1}, {0, 3, 10001, -1}, {9, 9, 5, -1}, {0, 9, -1, -1},
            {-1, 3, 5, -2}, {0, 5, 5, -2}, {-2, -1, 5, -2}, {5, 6, 5, -2}, {Integer.MIN_VALUE, Integer.MAX_VALUE, 5, -2},
            {1, 3, 5, -3}, {0, 2, 5, -3}, {1, 2, 5, -3}, {0, 4, 5, -3}};
        for (int[] c : calls) {
            Check.due("draw " + c[0] + " " + c[1] + " " + c[2], x.draw(c[0], c[1], c[2]), c[3]);
            Check.due("status", x.status(), c[3]);
        }
        widths("all refused", x, 10, 10, 10, 10);
        Check.due("still lost", x.count(2), 2);
        Check.due("draw", x.draw(0, 3, 5), 2);
        Check.due("status", x.status(), 0);
        Check.due("none lost", x.count(2), 0);
        Check.due("between stands now", x.draw(0, 3, 5), -3);
    }

    private static void drawParts() {
        FloodTax x = land(10, 10, 10, 7);
        x.lose(1);
        x.lose(2);
        Check.due("draw", x.draw(0, 3, 5), 2);
        widths("alike rests: the lower", x, 2, 2, 1, 7);
        Check.due("mark 1", x.stands(1), 1);
        Check.due("mark 2", x.stands(2), 1);
        x.lose(3);
        Check.due("draw inside", x.draw(2, 4, 100), 1);
        widths("10 : 7 of 100", x, 2, 2, 59, 41);
        x = land(1, 2, 3, 4, 5);
        x.lose(1);
        x.lose(2);
        x.lose(3);
        x.lose(4);
        Check.due("draw 13", x.draw(0, 5, 13), 4);
        // 13/15, 26/15, 39/15, 52/15, 65/15: rests 13, 11, 9, 7, 5
        widths("greatest rests", x, 1, 2, 3, 3, 4);
        Check.due("all of it", x.count(6), 13);
    }

    private static void drawByRegister() {
        FloodTax x = land(1, 3);
        x.lose(1);
        x.draw(0, 2, 0);
        widths("no ropes", x, 0, 0);
        Check.due("register", x.of(1, 1), 3);
        x.lose(1);
        Check.due("again", x.draw(0, 2, 8), 1);
        widths("by the register", x, 2, 6);
        Check.due("one strip", x.draw(1, 2, 10000), 0);
        widths("one strip takes all", x, 2, 10000);
    }

    private static void drawMost() {
        FloodTax x = new FloodTax();
        for (int i = 0; i < 24; i++) {
            x.strip(i == 0 ? 399 : 400, 0, 0);
        }
        for (int mark = 1; mark < 24; mark++) {
            x.lose(mark);
        }
        Check.due("lost", x.count(2), 23);
        Check.due("draw", x.draw(0, 24, 10000), 23);
        Check.due("to the last rope", x.count(6), 10000);
        Check.due("the narrow one", x.of(0, 0), 415);
        Check.due("the last with one more", x.of(17, 0), 417);
        Check.due("the first without", x.of(18, 0), 416);
    }
}
