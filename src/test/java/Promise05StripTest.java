/** Promise 5, strip: its bounds, sentence by sentence. */
public final class Promise05StripTest {
    public static void main(String[] args) {
        widths();
        levels();
        owners();
        itsNumber();
        mostStrips();
        badNumberAheadOfNoRoom();
        refusedChangesNothing();
        itsMarkIsARock();
        theOneAheadStands();
        lostOnesStayLost();
        widthsAtFirst();
        Check.finish();
    }

    private static void widths() {
        Check.sentence("II: a WIDTH, 1 .. 400 ropes");
        Check.bounds("strip width", 1, 400, width -> new FloodTax().strip(width, 0, 0), 0, -1);
        Lands.widths("kept", Lands.ofWidths(1, 400), 1, 400);
    }

    private static void levels() {
        Check.sentence("II: a LEVEL, 0 .. 400");
        Check.bounds("strip level", 0, 400, level -> new FloodTax().strip(1, level, 0), 0, -1);
        FloodTax x = new FloodTax();
        x.strip(1, 0, 0);
        x.strip(1, 400, 0);
        Check.due("0 is kept", x.of(0, 2), 0);
        Check.due("400 is kept", x.of(1, 2), 400);
    }

    private static void owners() {
        Check.sentence("II: an owner 0 .. 19");
        Check.bounds("strip owner", 0, 19, owner -> new FloodTax().strip(1, 0, owner), 0, -1);
        FloodTax x = new FloodTax();
        x.strip(1, 0, 0);
        x.strip(1, 0, 19);
        Check.due("0 is kept", x.of(0, 3), 0);
        Check.due("19 is kept", x.of(1, 3), 19);
    }

    private static void itsNumber() {
        Check.sentence("5: a STRIP behind the others: its number");
        FloodTax x = new FloodTax();
        Check.due("the first", x.strip(5, 0, 0), 0);
        Check.due("the second", x.strip(6, 0, 0), 1);
        Check.due("an alike one", x.strip(6, 0, 0), 2);
        Lands.widths("in order", x, 5, 6, 6);
    }

    private static void mostStrips() {
        Check.sentence("II: STRIPS 0 .. 23 (24 at most)");
        FloodTax x = new FloodTax();
        for (int i = 0; i < 22; i++) {
            x.strip(1, 0, 0);
        }
        Check.due("the 23rd", x.strip(2, 0, 0), 22);
        Check.due("the 24th", x.strip(3, 0, 0), 23);
        Check.due("the 25th", x.strip(4, 0, 0), -5);
        Check.due("status", x.status(), -5);
        Check.due("the 26th", x.strip(4, 0, 0), -5);
        Check.due("count(1)", x.count(1), 24);
        Check.due("of(23, 0)", x.of(23, 0), 3);
        Check.due("of(24, 0)", x.of(24, 0), -1);
        Check.due("mark 24", x.stands(24), 1);
        Check.due("mark 25", x.stands(25), -1);
    }

    private static void badNumberAheadOfNoRoom() {
        Check.sentence("REFUSED by -1 ahead of -5");
        FloodTax x = Lands.full();
        Check.due("no room", x.strip(1, 0, 0), -5);
        Check.due("bad width, no room", x.strip(0, 0, 0), -1);
        Check.due("bad level, no room", x.strip(1, 401, 0), -1);
        Check.due("bad owner, no room", x.strip(1, 0, 20), -1);
        Check.due("status", x.status(), -1);
    }

    private static void refusedChangesNothing() {
        Check.sentence("5: a refused STRIP is none");
        FloodTax x = Lands.ofWidths(5);
        x.strip(401, 0, 0);
        x.strip(1, -1, 0);
        x.strip(1, 0, 20);
        Check.due("count(1)", x.count(1), 1);
        Check.due("count(6)", x.count(6), 5);
        Check.due("stands(2)", x.stands(2), -1);
        Check.due("mark 1 is a rock still", x.lose(1), -3);
    }

    private static void itsMarkIsARock() {
        Check.sentence("5: its MARK, the last, is a rock");
        FloodTax x = new FloodTax();
        for (int n = 1; n <= 24; n++) {
            x.strip(1, 0, 0);
            Check.due("stands(" + n + ") of " + n, x.stands(n), 1);
            Check.due("lose(" + n + ") of " + n, x.lose(n), -3);
            Check.due("stands(" + (n + 1) + ") of " + n, x.stands(n + 1), -1);
        }
    }

    private static void theOneAheadStands() {
        Check.sentence("5: the one that was so ahead stands");
        FloodTax x = new FloodTax();
        x.strip(1, 0, 0);
        for (int n = 2; n <= 24; n++) {
            x.strip(1, 0, 0);
            Check.due("stands(" + (n - 1) + ") of " + n, x.stands(n - 1), 1);
            Check.due("lose(" + (n - 1) + ") of " + n, x.lose(n - 1), 0);
        }
        Check.due("0 is a rock still", x.lose(0), -3);
        Check.due("23 are lost", x.count(2), 23);
    }

    private static void lostOnesStayLost() {
        Check.sentence("5: MARKS that are LOST stay so when a STRIP comes");
        FloodTax x = Lands.ofWidths(5, 6);
        x.lose(1);
        x.strip(7, 0, 0);
        Check.due("stands(1)", x.stands(1), 0);
        Check.due("stands(2)", x.stands(2), 1);
        Check.due("count(2)", x.count(2), 1);
    }

    private static void widthsAtFirst() {
        Check.sentence("II: WIDTHS on the land are those of the REGISTER at first");
        FloodTax x = Lands.ofWidths(5);
        x.draw(0, 1, 9);
        x.strip(6, 0, 0);
        Lands.widths("of the new one alone", x, 9, 6);
        Check.due("of(0, 1)", x.of(0, 1), 5);
        Check.due("of(1, 1)", x.of(1, 1), 6);
    }
}
