/** Promise 19, take: its bounds, sentence by sentence. */
public final class Promise19TakeTest {
    public static void main(String[] args) {
        officers();
        sheaves();
        knownDays();
        noSuchStrip();
        howMany();
        mostTaken();
        badNumberAheadOfNoSuchStrip();
        allAheadOfNoRoom();
        refusedChangesNothing();
        Check.finish();
    }

    private static void officers() {
        Check.sentence("V: an officer 0 .. 9");
        Check.bounds("take officer", 0, 9, officer -> Lands.ofWidths(1).take(officer, 0, 5, 0), 1, -1);
        FloodTax x = Lands.ofWidths(1);
        x.take(9, 0, 5, 0);
        Check.due("gain(9, 0)", x.gain(9, 0), 5);
        Check.due("gain(8, 0)", x.gain(8, 0), 0);
    }

    private static void sheaves() {
        Check.sentence("V: so many sheaves (0 .. 1,000,000)");
        Check.bounds("take sheaves", 0, 1000000, sheaves -> Lands.ofWidths(1).take(0, 0, sheaves, 0), 1, -1);
        FloodTax x = Lands.ofWidths(1);
        x.take(0, 0, 0, 0);
        Check.due("0 are kept", x.gain(0, 0), 0);
        x.take(0, 0, 1000000, 0);
        Check.due("1000000 are kept", x.gain(0, 0), 1000000);
    }

    private static void knownDays() {
        Check.sentence("V: known from a DAY on, 0 .. 1000");
        Check.bounds("take known", 0, 1000, known -> Lands.ofWidths(1).take(0, 0, 5, known), 1, -1);
        FloodTax x = Lands.ofWidths(1);
        x.take(0, 0, 5, 1000);
        Check.due("gain(0, 999)", x.gain(0, 999), 0);
        Check.due("gain(0, 1000)", x.gain(0, 1000), 5);
    }

    private static void noSuchStrip() {
        Check.sentence("19: -2 there is no such STRIP");
        Check.bounds("take strip", 0, 2, strip -> Lands.ofWidths(1, 1, 1).take(0, strip, 5, 0), 1, -2);
        Check.bounds("take strip, of 24", 0, 23, strip -> Lands.full().take(0, strip, 5, 0), 1, -2);
        FloodTax x = new FloodTax();
        Check.due("without strips", x.take(0, 0, 5, 0), -2);
        Check.due("status", x.status(), -2);
    }

    private static void howMany() {
        Check.sentence("19: TAKEN: how many");
        FloodTax x = Lands.ofWidths(1, 1);
        Check.due("the first", x.take(0, 0, 5, 0), 1);
        Check.due("the same again is one more", x.take(0, 0, 5, 0), 2);
        Check.due("one of nothing too", x.take(0, 1, 0, 0), 3);
        Check.due("count(4)", x.count(4), 3);
        Check.due("status", x.status(), 0);
    }

    private static FloodTax withTaken(int many) {
        FloodTax x = Lands.ofWidths(1);
        for (int i = 0; i < many; i++) {
            x.take(1, 0, 1, 0);
        }
        return x;
    }

    private static void mostTaken() {
        Check.sentence("V: TAKEN, 200 at most");
        FloodTax x = withTaken(198);
        Check.due("the 199th", x.take(0, 0, 1, 0), 199);
        Check.due("the 200th", x.take(0, 0, 1, 0), 200);
        Check.due("the 200th counts", x.gain(0, 0), 2);
        Check.due("the 201st", x.take(0, 0, 1, 0), -5);
        Check.due("status", x.status(), -5);
        Check.due("the 202nd", x.take(0, 0, 0, 0), -5);
        Check.due("a refused one does not count", x.gain(0, 0), 2);
        Check.due("count(4)", x.count(4), 200);
    }

    private static void badNumberAheadOfNoSuchStrip() {
        Check.sentence("REFUSED by -1 ahead of -2");
        FloodTax x = Lands.ofWidths(1);
        Check.due("no such strip", x.take(0, 1, 0, 0), -2);
        Check.due("bad officer, no such strip", x.take(10, 1, 0, 0), -1);
        Check.due("bad sheaves, no such strip", x.take(0, 1, 1000001, 0), -1);
        Check.due("bad known, no such strip", x.take(0, -1, 0, 1001), -1);
    }

    private static void allAheadOfNoRoom() {
        Check.sentence("REFUSED by -1 and -2 ahead of -5");
        FloodTax x = withTaken(200);
        Check.due("no room", x.take(0, 0, 0, 0), -5);
        Check.due("bad officer, no room", x.take(-1, 0, 0, 0), -1);
        Check.due("bad sheaves, no room", x.take(0, 0, -1, 0), -1);
        Check.due("bad known, no room", x.take(0, 0, 0, -1), -1);
        Check.due("no such strip, no room", x.take(0, 1, 0, 0), -2);
        Check.due("all of these", x.take(10, 1, 0, 0), -1);
    }

    private static void refusedChangesNothing() {
        Check.sentence("19: what was refused is not TAKEN");
        FloodTax x = Lands.ofWidths(1);
        x.take(0, 0, 5, 0);
        x.take(0, 0, 1000001, 0);
        x.take(0, 0, 7, 1001);
        x.take(0, 1, 7, 0);
        x.take(10, 0, 7, 0);
        Check.due("count(4)", x.count(4), 1);
        Check.due("gain(0, 1000)", x.gain(0, 1000), 5);
    }
}
