import java.util.Random;

/** Long runs of all calls with numbers good and bad, the same ones each time, held against PlainModel. */
public final class RandomRunsTest {
    private static final int RUNS = 600;
    /** What an object answers behind its 512th call is free, so a run ends ahead of that. */
    private static final int CALLS = 512;
    private static final int CALLS_OF_ONE_STEP = 30;
    private static final int[] ODD = {-1, Integer.MIN_VALUE, Integer.MAX_VALUE, -2, 1 << 16, 1001, 10001, 1000001, 401, 120};
    private static final String[] WORDS = {"tax", "relief", "free", "officer", "of", "from", "below", ";", "0", "1", "7", "10000", "10001", "x", ","};

    private final Random random;
    private final FloodTax x = new FloodTax();
    private final PlainModel y = new PlainModel();
    private final int kind;
    private int left = CALLS;
    private final String run;

    private RandomRunsTest(int seed) {
        random = new Random(seed);
        kind = seed % 4;
        run = "run " + seed + ": ";
    }

    public static void main(String[] args) {
        for (int seed = 0; seed < RUNS && Check.wrongSoFar() < 20; seed++) {
            new RandomRunsTest(seed).play();
        }
        Check.finish();
    }

    private void play() {
        while (left >= CALLS_OF_ONE_STEP) {
            if (random.nextInt(25) == 0) {
                decree();
            } else {
                one(call());
            }
        }
        Check.holds(run + "at most 512 calls", left >= 0);
    }

    /** Runs of kind 1 tell readings above all, of kind 2 takings, of kind 3 strips and marks, so that rooms fill up. */
    private int call() {
        int[][] often = {{}, {0}, {15}, {3, 3, 5, 5, 6}};
        if (often[kind].length > 0 && random.nextInt(6) > 0) {
            return often[kind][random.nextInt(often[kind].length)];
        }
        return random.nextInt(21);
    }

    private int num(int from, int to) {
        if (random.nextInt(40) == 0) {
            return ODD[random.nextInt(ODD.length)];
        }
        switch (random.nextInt(12)) {
            case 0:
                return from;
            case 1:
                return to;
            default:
                return from + random.nextInt(to - from + 1);
        }
    }

    private int known() {
        return random.nextInt(4) == 0 ? num(0, 1000) : num(0, 130);
    }

    private int strip() {
        return num(0, Math.max(0, y.strips.size() - 1));
    }

    private int mark() {
        return num(0, y.strips.size());
    }

    private void due(String call, long got, long want) {
        Check.due(run + call, got, want);
        left--;
        if (random.nextInt(16) == 0) {
            Check.due(run + call + ", then status()", x.status(), y.status);
            left--;
        }
    }

    private void one(int which) {
        int k = known();
        int s = strip();
        int a = num(0, 400);
        switch (which) {
            case 0 -> {
                int day = num(0, 119);
                due("read " + day + " " + a + " " + k, x.read(day, a, k), y.read(day, a, k));
            }
            case 1 -> {
                int day = num(0, 119);
                due("height " + day + " " + k, x.height(day, k), y.height(day, k));
            }
            case 2 -> due("peak " + k, x.peak(k), y.peak(k));
            case 3 -> {
                int width = num(1, 400);
                int owner = num(0, 19);
                due("strip " + width + " " + a + " " + owner, x.strip(width, a, owner), y.strip(width, a, owner));
            }
            case 4 -> {
                int what = num(0, 3);
                due("of " + s + " " + what, x.of(s, what), y.of(s, what));
            }
            case 5 -> {
                int mark = mark();
                due("lose " + mark, x.lose(mark), y.lose(mark));
            }
            case 6 -> draw();
            case 7 -> {
                int mark = mark();
                due("stands " + mark, x.stands(mark), y.stands(mark));
            }
            case 8, 9 -> {
                int row = num(0, 7);
                int days = num(0, 120);
                int sheaves = num(0, 100);
                due("table " + row + " " + days + " " + sheaves, x.table(row, days, sheaves), y.table(row, days, sheaves));
            }
            case 10 -> due("wet " + s + " " + k, x.wet(s, k), y.wet(s, k));
            case 11 -> due("harvest " + s + " " + k, x.harvest(s, k), y.harvest(s, k));
            case 12 -> {
                int day = num(0, 119);
                due("foretold " + s + " " + day, x.foretold(s, day), y.foretold(s, day));
            }
            case 13, 14 -> {
                int what = num(0, 4);
                due("tax " + s + " " + k + " " + what, x.tax(s, k, what), y.tax(s, k, what));
            }
            case 15 -> {
                int officer = num(0, 9);
                int sheaves = random.nextInt(3) == 0 ? num(0, 1000000) : num(0, 9000);
                due("take " + officer + " " + s + " " + sheaves + " " + k, x.take(officer, s, sheaves, k), y.take(officer, s, sheaves, k));
            }
            case 16 -> {
                int officer = num(0, 9);
                due("gain " + officer + " " + k, x.gain(officer, k), y.gain(officer, k));
            }
            case 17 -> due("sheaves " + k, x.sheaves(k), y.sheaves(k));
            case 18 -> {
                int sheaf = num(0, Math.max(1, y.sheaves(500)));
                int what = num(0, 1);
                due("led " + sheaf + " " + k + " " + what, x.led(sheaf, k, what), y.led(sheaf, k, what));
            }
            case 19 -> {
                int what = num(0, 6);
                due("count " + what, x.count(what), y.count(what));
            }
            default -> due("fault", x.fault(), y.fault);
        }
    }

    /** Mostly between two marks that can be drawn between. */
    private void draw() {
        int a = mark();
        int b = mark();
        if (random.nextInt(5) > 0 && !y.strips.isEmpty()) {
            b = random.nextInt(y.strips.size()) + 1;
            while (b < y.strips.size() && y.stands(b) == 0) {
                b++;
            }
            a = b - 1;
            while (a > 0 && y.stands(a) == 0) {
                a--;
            }
        }
        int ropes = random.nextBoolean() ? num(0, 10000) : num(0, 60);
        due("draw " + a + " " + b + " " + ropes, x.draw(a, b, ropes), y.draw(a, b, ropes));
        for (int strip = 0; strip < y.strips.size(); strip++) {
            Check.due(run + "width of " + strip, x.of(strip, 0), y.of(strip, 0));
        }
        left -= y.strips.size();
    }

    private void decree() {
        String text = random.nextInt(3) == 0 ? looseText() : rightText();
        if (random.nextInt(3) == 0) {
            text = spoiled(text);
        }
        text = text.length() > 200 ? text.substring(0, 200) : text;
        StringBuilder padded = new StringBuilder(text);
        while (padded.length() % 20 != 0) {
            padded.append((char) random.nextInt(256));
        }
        int[] w = new int[5];
        for (int at = 0; at < padded.length(); at += 20) {
            for (int i = 0; i < 5; i++) {
                w[i] = Texts.word(padded, at + 4 * i);
            }
            due("feed", x.feed(w[0], w[1], w[2], w[3], w[4]), y.feed(w));
        }
        int n = random.nextInt(30) == 0 ? num(0, 200) : text.length();
        due("end " + n, x.end(n), y.end(n));
        due("decrees of \"" + text + "\"", x.decrees(), y.decrees());
        due("fault of \"" + text + "\"", x.fault(), y.fault);
        due("count(3)", x.count(3), y.count(3));
    }

    private String blanks() {
        return " ".repeat(random.nextInt(8) == 0 ? 2 : random.nextInt(2));
    }

    private String rightText() {
        StringBuilder text = new StringBuilder();
        int many = random.nextInt(6) == 0 ? 19 + random.nextInt(3) : 1 + random.nextInt(8);
        for (int i = 0; i < many; i++) {
            text.append(i == 0 ? "" : ";").append(blanks());
            int a = random.nextInt(10);
            int b = Math.max(1, a) + random.nextInt(10);
            String ratio = a + blanks() + "of" + blanks() + b + blanks();
            switch (many > 15 ? 0 : random.nextInt(7)) {
                case 0 -> text.append("free").append(blanks()).append(random.nextInt(300));
                case 1 -> text.append("officer").append(ratio);
                case 2, 3 -> text.append("relief").append(ratio).append("below").append(blanks()).append(10 * random.nextInt(14));
                default -> text.append("tax").append(ratio).append("from").append(blanks()).append(50 * random.nextInt(9));
            }
        }
        return text.append(blanks()).toString();
    }

    private String looseText() {
        StringBuilder text = new StringBuilder();
        int many = random.nextInt(10);
        for (int i = 0; i < many; i++) {
            text.append(WORDS[random.nextInt(WORDS.length)]).append(blanks());
        }
        return text.toString();
    }

    private String spoiled(String text) {
        if (text.isEmpty()) {
            return text;
        }
        int at = random.nextInt(text.length());
        String put = switch (random.nextInt(4)) {
            case 0 -> "";
            case 1 -> String.valueOf((char) random.nextInt(256));
            case 2 -> " ";
            default -> WORDS[random.nextInt(WORDS.length)];
        };
        return text.substring(0, at) + put + text.substring(at + random.nextInt(2));
    }
}
