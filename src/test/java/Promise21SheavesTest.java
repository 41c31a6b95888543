/** Promise 21, sheaves: its bounds, sentence by sentence. */
public final class Promise21SheavesTest {
    public static void main(String[] args) {
        knownDays();
        withoutStrips();
        allStrips();
        asKnown();
        whoeverGetsThem();
        theGreatest();
        Check.finish();
    }

    private static void knownDays() {
        Check.sentence("21: as known on a DAY, 0 .. 1000; NONE");
        FloodTax x = Lands.bearing(6, 7);
        Check.bounds("sheaves known", 0, 1000, x::sheaves, 13, -1);
        Check.due("status is left", x.status(), 0);
        Check.due("wrong, without strips", new FloodTax().sheaves(1001), -1);
    }

    private static void withoutStrips() {
        Check.sentence("21: none at all");
        Check.due("without strips", new FloodTax().sheaves(0), 0);
        Check.due("nothing grows", Lands.ofWidths(400, 400).sheaves(0), 0);
        FloodTax x = Lands.bearing(6);
        x.draw(0, 1, 0);
        Check.due("no ropes", x.sheaves(0), 0);
    }

    private static void allStrips() {
        Check.sentence("21: all SHEAVES, of the first STRIP to the last");
        FloodTax x = Lands.bearing(1);
        int all = 1;
        Check.due("one strip", x.sheaves(0), all);
        for (int n = 2; n <= 24; n++) {
            x.strip(n, 0, 0);
            all += n;
            Check.due(n + " strips", x.sheaves(0), all);
        }
        Check.due("a 25th was refused", x.strip(1, 0, 0), -5);
        Check.due("as before", x.sheaves(0), 300);
    }

    private static void asKnown() {
        Check.sentence("21: as known on the DAY");
        FloodTax x = Lands.bearing(6);
        x.strip(10, 10, 0);
        x.table(7, 0, 0);
        x.table(6, 120, 1);
        x.read(0, 10, 50);
        Check.due("49", x.sheaves(49), 6);
        Check.due("50", x.sheaves(50), 16);
        Check.due("51", x.sheaves(51), 16);
    }

    private static void whoeverGetsThem() {
        Check.sentence("21: the officer's, the king's and the owner's");
        FloodTax x = Lands.bearing(100, 50);
        Texts.decree(x, "tax 1 of 2 from 0;relief 1 of 3 below 121;officer 1 of 3");
        x.take(0, 0, 100, 0);
        Check.due("sheaves", x.sheaves(0), 150);
    }

    private static void theGreatest() {
        Check.sentence("21: the greatest");
        FloodTax x = Lands.full();
        x.table(7, 120, 100);
        for (int i = 0; i < 24; i++) {
            x.draw(i, i + 1, 10000);
        }
        Check.due("24 times a million", x.sheaves(1000), 24000000);
    }
}
