/** Promise 2, read: its bounds, sentence by sentence. */
public final class Promise02ReadTest {
    public static void main(String[] args) {
        days();
        heights();
        knownDays();
        howManyThereAre();
        mostReadings();
        badNumberAheadOfNoRoom();
        refusedChangesNothing();
        Check.finish();
    }

    private static void days() {
        Check.sentence("I: DAYS 0 .. 119");
        Check.bounds("read day", 0, 119, day -> new FloodTax().read(day, 7, 0), 1, -1);
        FloodTax x = new FloodTax();
        x.read(119, 7, 0);
        Check.due("height(118, 0)", x.height(118, 0), 0);
        Check.due("height(119, 0)", x.height(119, 0), 7);
    }

    private static void heights() {
        Check.sentence("I: HEIGHT 0 .. 400");
        Check.bounds("read height", 0, 400, height -> new FloodTax().read(5, height, 0), 1, -1);
        FloodTax x = new FloodTax();
        x.read(5, 400, 0);
        Check.due("400 is kept", x.height(5, 0), 400);
        x.read(5, 0, 0);
        Check.due("0 is kept", x.height(5, 0), 0);
    }

    private static void knownDays() {
        Check.sentence("I: the DAY on which it became known, 0 .. 1000");
        Check.bounds("read known", 0, 1000, known -> new FloodTax().read(5, 7, known), 1, -1);
        FloodTax x = new FloodTax();
        x.read(5, 7, 1000);
        Check.due("known on 1000", x.height(5, 1000), 7);
        Check.due("not on 999", x.height(5, 999), 0);
    }

    private static void howManyThereAre() {
        Check.sentence("2: how many there are");
        FloodTax x = new FloodTax();
        Check.due("the first", x.read(5, 7, 0), 1);
        Check.due("the same again is one more", x.read(5, 7, 0), 2);
        Check.due("told anew is one more", x.read(5, 8, 0), 3);
        Check.due("count(0)", x.count(0), 3);
    }

    private static FloodTax withReadings(int many) {
        FloodTax x = new FloodTax();
        for (int i = 0; i < many; i++) {
            x.read(i % 120, 7, 0);
        }
        return x;
    }

    private static void mostReadings() {
        Check.sentence("I: READINGS, 300 at most");
        FloodTax x = withReadings(298);
        Check.due("the 299th", x.read(0, 1, 0), 299);
        Check.due("the 300th", x.read(119, 400, 1000), 300);
        Check.due("the 300th counts", x.height(119, 1000), 400);
        Check.due("the 301st", x.read(0, 2, 0), -5);
        Check.due("status", x.status(), -5);
        Check.due("the 302nd", x.read(119, 400, 1000), -5);
        Check.due("count(0)", x.count(0), 300);
        Check.due("a refused one does not count", x.height(0, 0), 1);
    }

    private static void badNumberAheadOfNoRoom() {
        Check.sentence("REFUSED by -1 ahead of -5");
        FloodTax x = withReadings(300);
        Check.due("no room", x.read(0, 0, 0), -5);
        Check.due("bad day, no room", x.read(120, 0, 0), -1);
        Check.due("bad height, no room", x.read(0, 401, 0), -1);
        Check.due("bad known, no room", x.read(0, 0, 1001), -1);
        Check.due("status", x.status(), -1);
    }

    private static void refusedChangesNothing() {
        Check.sentence("2: a refused READING is none");
        FloodTax x = new FloodTax();
        x.read(5, 7, 0);
        x.read(5, 401, 0);
        x.read(5, -1, 0);
        x.read(5, 9, 1001);
        x.read(120, 9, 0);
        Check.due("count(0)", x.count(0), 1);
        Check.due("height(5, 1000)", x.height(5, 1000), 7);
        Check.due("peak(1000)", x.peak(1000), 7);
        Check.due("read", x.read(5, 8, 0), 2);
    }
}
