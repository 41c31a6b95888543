/** Promise 14, feed: its bounds, sentence by sentence. */
public final class Promise14FeedTest {
    private static final int BLANKS = 0x20202020;

    public static void main(String[] args) {
        howManyItHas();
        twentyBytesHighestFirst();
        everyByte();
        behindTheTape();
        noMoreThan200();
        refusedChangesNothing();
        Check.finish();
    }

    private static int feedBlanks(FloodTax x) {
        return x.feed(BLANKS, BLANKS, BLANKS, BLANKS, BLANKS);
    }

    private static void howManyItHas() {
        Check.sentence("14: twenty bytes: how many it has");
        FloodTax x = new FloodTax();
        for (int n = 20; n <= 200; n += 20) {
            Check.due("feed", feedBlanks(x), n);
            Check.due("count(5)", x.count(5), n);
        }
        x.decrees();
        Check.due("feed, the tape is empty again", feedBlanks(x), 20);
    }

    /** One byte among blanks can't go on, so its place is the fault. */
    private static void twentyBytesHighestFirst() {
        Check.sentence("14: four of each number, the highest first");
        FloodTax x = new FloodTax();
        for (int place = 0; place < 20; place++) {
            int[] n = {BLANKS, BLANKS, BLANKS, BLANKS, BLANKS};
            int shift = 24 - 8 * (place % 4);
            n[place / 4] = BLANKS & ~(0xff << shift) | ';' << shift;
            x.feed(n[0], n[1], n[2], n[3], n[4]);
            Check.due("decrees, byte " + place, x.decrees(), -6);
            Check.due("fault, byte " + place, x.fault(), place);
        }
    }

    private static void everyByte() {
        Check.sentence("14: bytes 0 .. 255, also of numbers below 0");
        FloodTax x = new FloodTax();
        for (int code : new int[] {0, 1, 31, 32, 33, 127, 128, 160, 254, 255}) {
            int number = code << 24 | code << 16 | code << 8 | code;
            Check.due("feed of " + code, x.feed(number, number, number, number, number), 20);
            Check.due("decrees of " + code, x.decrees(), code == 32 ? 0 : -6);
            Check.due("fault of " + code, x.fault(), code == 32 ? -1 : 0);
        }
        x.feed(BLANKS, Integer.MIN_VALUE, 0, 0, 0);
        x.decrees();
        Check.due("the least number", x.fault(), 4);
        x.feed(BLANKS, BLANKS, BLANKS, BLANKS, Integer.MAX_VALUE);
        x.decrees();
        Check.due("the greatest number", x.fault(), 16);
    }

    private static void behindTheTape() {
        Check.sentence("14: come behind the TAPE");
        FloodTax x = new FloodTax();
        Texts.put(x, "free 1");
        // "2; free 3" and blanks
        Check.due("feed", x.feed(0x323b2066, 0x72656520, 0x33202020, BLANKS, BLANKS), 26);
        Check.due("decrees", x.decrees(), 2);
        x.strip(2, 0, 0);
        x.table(7, 0, 1);
        Texts.put(x, "tax 1 of 1 from 0;free ");
        Check.due("feed", x.feed(0x33202020, BLANKS, BLANKS, BLANKS, BLANKS), 43);
        Check.due("decrees", x.decrees(), 2);
        Check.due("free 3", x.tax(0, 0, 0), 0);
    }

    private static void noMoreThan200() {
        Check.sentence("14: NONE, if there would be more than 200");
        for (int ahead = 179; ahead <= 200; ahead++) {
            FloodTax x = new FloodTax();
            Texts.put(x, " ".repeat(ahead));
            Check.due("feed behind " + ahead, feedBlanks(x), ahead <= 180 ? ahead + 20 : -1);
            Check.due("count(5) behind " + ahead, x.count(5), ahead <= 180 ? ahead + 20 : ahead);
            Check.due("status is left", x.status(), 0);
        }
    }

    private static void refusedChangesNothing() {
        Check.sentence("14: when it is NONE the TAPE stays");
        FloodTax x = new FloodTax();
        Texts.put(x, " ".repeat(179) + "free 1");
        Check.due("feed", x.feed(0, 0, 0, 0, 0), -1);
        Check.due("feed again", x.feed(-1, -1, -1, -1, -1), -1);
        Check.due("decrees", x.decrees(), 1);
    }
}
