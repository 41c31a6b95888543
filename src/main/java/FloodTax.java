/** Land along a river that floods: its heights, strips, marks, harvests, decrees and taxes. */
public final class FloodTax {
    public static final int NONE = -1;

    private static final int BAD_NUMBER = -1;
    private static final int NO_SUCH = -2;
    private static final int CANNOT_BE = -3;
    private static final int NO_ROOM = -5;
    private static final int BAD_TEXT = -6;

    private static final int DAYS = 120;
    private static final int LAST_KNOWN = 1000;
    private static final int MOST_HEIGHT = 400;
    private static final int MOST_READINGS = 300;
    private static final int MOST_STRIPS = 24;
    private static final int MOST_WIDTH = 400;
    private static final int OWNERS = 20;
    private static final int MOST_ROPES = 10000;
    private static final int TABLE_ROWS = 8;
    private static final int MOST_BORNE = 100;
    private static final int TAPE_BYTES = 200;
    private static final int FED_BYTES = 20;
    private static final int MOST_DECREES = 20;
    private static final int MOST_NUMBER = 10000;
    private static final int OFFICERS = 10;
    private static final int MOST_TAKEN = 200;
    private static final int MOST_TAKEN_SHEAVES = 1000000;

    private static final int TO_OFFICER = 0;
    private static final int TO_KING = 1;
    private static final int TO_OWNER = 2;

    private final River river;
    private final Land land;
    private final BearTable bearTable;
    private final Tape tape;
    private final Levy levy;
    private final Takings takings;
    private DecreeBook book;
    private DecreeBook spareBook;
    private int faultPlace;
    private int refusal;

    public FloodTax() {
        river = new River();
        land = new Land();
        bearTable = new BearTable();
        tape = new Tape();
        levy = new Levy();
        takings = new Takings();
        book = new DecreeBook();
        spareBook = new DecreeBook();
        faultPlace = NONE;
        refusal = 0;
    }

    public int read(int day, int height, int known) {
        if (!isWithin(day, DAYS - 1) || !isWithin(height, MOST_HEIGHT) || !isKnownDay(known)) {
            return refuse(BAD_NUMBER);
        }
        if (river.told >= MOST_READINGS) {
            return refuse(NO_ROOM);
        }
        river.tell(day, height, known);
        return accept(river.told);
    }

    public int height(int day, int known) {
        if (!isWithin(day, DAYS - 1) || !isKnownDay(known)) {
            return NONE;
        }
        river.look(known);
        return river.seen[day];
    }

    public int peak(int known) {
        if (!isKnownDay(known)) {
            return NONE;
        }
        river.look(known);
        return river.seenPeak;
    }

    public int strip(int width, int level, int owner) {
        if (width < 1 || width > MOST_WIDTH || !isWithin(level, MOST_HEIGHT) || !isWithin(owner, OWNERS - 1)) {
            return refuse(BAD_NUMBER);
        }
        if (land.strips >= MOST_STRIPS) {
            return refuse(NO_ROOM);
        }
        land.addStrip(width, level, owner);
        return accept(land.strips - 1);
    }

    public int of(int strip, int what) {
        if (!land.hasStrip(strip)) {
            return NONE;
        }
        switch (what) {
            case 0:
                return land.widths[strip];
            case 1:
                return land.register[strip];
            case 2:
                return land.levels[strip];
            case 3:
                return land.owners[strip];
            default:
                return NONE;
        }
    }

    public int lose(int mark) {
        if (!land.hasMark(mark)) {
            return refuse(NO_SUCH);
        }
        if (land.isRock(mark) || land.lost[mark]) {
            return refuse(CANNOT_BE);
        }
        land.lost[mark] = true;
        return accept(0);
    }

    public int draw(int a, int b, int ropes) {
        if (b <= a || !isWithin(ropes, MOST_ROPES)) {
            return refuse(BAD_NUMBER);
        }
        if (!land.hasMark(a) || !land.hasMark(b)) {
            return refuse(NO_SUCH);
        }
        if (!land.canDraw(a, b)) {
            return refuse(CANNOT_BE);
        }
        land.partRopes(a, b, ropes);
        return accept(land.setMarksBetween(a, b));
    }

    public int stands(int mark) {
        if (!land.hasMark(mark)) {
            return NONE;
        }
        return land.lost[mark] ? 0 : 1;
    }

    public int table(int k, int days, int sheaves) {
        if (!isWithin(k, TABLE_ROWS - 1) || !isWithin(days, DAYS) || !isWithin(sheaves, MOST_BORNE)) {
            return refuse(BAD_NUMBER);
        }
        bearTable.fromDays[k] = days;
        bearTable.sheavesARope[k] = sheaves;
        return accept(0);
    }

    public int wet(int strip, int known) {
        if (!land.hasStrip(strip) || !isKnownDay(known)) {
            return NONE;
        }
        river.look(known);
        return river.wetDays(land.levels[strip]);
    }

    public int harvest(int strip, int known) {
        if (!land.hasStrip(strip) || !isKnownDay(known)) {
            return NONE;
        }
        river.look(known);
        return harvestSeen(strip);
    }

    public int foretold(int strip, int day) {
        if (!land.hasStrip(strip) || !isWithin(day, DAYS - 1)) {
            return NONE;
        }
        river.lookUpTo(day, day);
        return harvestSeen(strip);
    }

    public int feed(int a, int b, int c, int d, int e) {
        if (tape.length + FED_BYTES > TAPE_BYTES) {
            return NONE;
        }
        tape.append(a);
        tape.append(b);
        tape.append(c);
        tape.append(d);
        tape.append(e);
        return tape.length;
    }

    public int end(int n) {
        if (!isWithin(n, tape.length)) {
            return NONE;
        }
        tape.length = n;
        return n;
    }

    public int decrees() {
        faultPlace = tape.parseInto(spareBook);
        tape.length = 0;
        if (faultPlace != NONE) {
            return refuse(BAD_TEXT);
        }
        DecreeBook replaced = book;
        book = spareBook;
        spareBook = replaced;
        return accept(book.size);
    }

    public int fault() {
        return faultPlace;
    }

    public int tax(int strip, int known, int what) {
        if (!land.hasStrip(strip) || !isKnownDay(known)) {
            return NONE;
        }
        river.look(known);
        assessSeen(strip);
        switch (what) {
            case 0:
                return levy.due;
            case 1:
                return levy.relieved;
            case 2:
                return levy.toOfficer;
            case 3:
                return levy.toKing;
            case 4:
                return levy.toOwner;
            default:
                return NONE;
        }
    }

    public int take(int officer, int strip, int sheaves, int known) {
        if (!isWithin(officer, OFFICERS - 1) || !isWithin(sheaves, MOST_TAKEN_SHEAVES) || !isKnownDay(known)) {
            return refuse(BAD_NUMBER);
        }
        if (!land.hasStrip(strip)) {
            return refuse(NO_SUCH);
        }
        if (takings.size >= MOST_TAKEN) {
            return refuse(NO_ROOM);
        }
        takings.add(officer, strip, sheaves, known);
        return accept(takings.size);
    }

    public long gain(int officer, int known) {
        if (!isWithin(officer, OFFICERS - 1) || !isKnownDay(known)) {
            return NONE;
        }
        river.look(known);
        takings.sumUp(officer, known);
        long gained = 0;
        for (int strip = 0; strip < land.strips; strip++) {
            if (takings.own[strip] > 0) {
                gained += gainSeen(strip);
            }
        }
        return gained;
    }

    public int sheaves(int known) {
        if (!isKnownDay(known)) {
            return NONE;
        }
        river.look(known);
        int all = 0;
        for (int strip = 0; strip < land.strips; strip++) {
            all += harvestSeen(strip);
        }
        return all;
    }

    public int led(int sheaf, int known, int what) {
        if (sheaf < 0 || !isKnownDay(known) || !isWithin(what, 1)) {
            return NONE;
        }
        river.look(known);
        int place = sheaf;
        for (int strip = 0; strip < land.strips; strip++) {
            int borne = harvestSeen(strip);
            if (place < borne) {
                return what == 0 ? strip : whoGets(strip, place);
            }
            place -= borne;
        }
        return NONE;
    }

    public int count(int what) {
        switch (what) {
            case 0:
                return river.told;
            case 1:
                return land.strips;
            case 2:
                return land.lostMarks();
            case 3:
                return book.size;
            case 4:
                return takings.size;
            case 5:
                return tape.length;
            case 6:
                return land.allWidths();
            default:
                return NONE;
        }
    }

    public int status() {
        return refusal;
    }

    private int refuse(int code) {
        refusal = code;
        return code;
    }

    private int accept(int answer) {
        refusal = 0;
        return answer;
    }

    // "Seen" in these names: by the heights of the latest look at the river, so that one look serves many strips.

    private int harvestSeen(int strip) {
        return harvestAfter(strip, river.wetDays(land.levels[strip]));
    }

    private int harvestAfter(int strip, int wetDays) {
        return land.widths[strip] * bearTable.borneAfter(wetDays);
    }

    private void assessSeen(int strip) {
        int wetDays = river.wetDays(land.levels[strip]);
        levy.assess(book, harvestAfter(strip, wetDays), wetDays, river.seenPeak);
    }

    private long gainSeen(int strip) {
        assessSeen(strip);
        long beyond = (long) takings.all[strip] - levy.due;
        return beyond > 0 ? share(beyond, takings.own[strip], takings.all[strip]) : 0;
    }

    private int whoGets(int strip, int place) {
        assessSeen(strip);
        if (place < levy.toOfficer) {
            return TO_OFFICER;
        }
        return place < levy.due ? TO_KING : TO_OWNER;
    }

    private static boolean isWithin(int number, int most) {
        return number >= 0 && number <= most;
    }

    private static boolean isKnownDay(int known) {
        return isWithin(known, LAST_KNOWN);
    }

    private static long share(long amount, long part, long whole) {
        return whole > 0 ? amount * part / whole : 0;
    }

    /** The readings in the order in which they were told, and the heights seen through them. */
    private static final class River {
        private static final int UNTOLD = -1;

        private final int[] days = new int[MOST_READINGS];
        private final int[] heights = new int[MOST_READINGS];
        private final int[] knownFrom = new int[MOST_READINGS];
        private int told = 0;
        // Filled anew by each look, so that no call needs a row of its own.
        private final int[] seen = new int[DAYS];
        private int seenPeak = 0;

        void tell(int day, int height, int known) {
            days[told] = day;
            heights[told] = height;
            knownFrom[told] = known;
            told++;
        }

        void look(int known) {
            lookUpTo(DAYS - 1, known);
        }

        /** Readings of days behind the last one don't count. */
        void lookUpTo(int lastDay, int known) {
            for (int day = 0; day < DAYS; day++) {
                seen[day] = UNTOLD;
            }
            for (int i = 0; i < told; i++) {
                if (knownFrom[i] <= known && days[i] <= lastDay) {
                    seen[days[i]] = heights[i];
                }
            }
            carryOn();
        }

        private void carryOn() {
            int current = 0;
            seenPeak = 0;
            for (int day = 0; day < DAYS; day++) {
                if (seen[day] == UNTOLD) {
                    seen[day] = current;
                }
                current = seen[day];
                seenPeak = Math.max(seenPeak, current);
            }
        }

        int wetDays(int level) {
            int wetSoFar = 0;
            for (int day = 0; day < DAYS; day++) {
                if (seen[day] >= level) {
                    wetSoFar++;
                }
            }
            return wetSoFar;
        }
    }

    /** The strips with their register, and the marks at their edges. */
    private static final class Land {
        private final int[] widths = new int[MOST_STRIPS];
        private final int[] register = new int[MOST_STRIPS];
        private final int[] levels = new int[MOST_STRIPS];
        private final int[] owners = new int[MOST_STRIPS];
        private final boolean[] lost = new boolean[MOST_STRIPS + 1];
        private final int[] rests = new int[MOST_STRIPS];
        private int strips = 0;

        void addStrip(int width, int level, int owner) {
            widths[strips] = width;
            register[strips] = width;
            levels[strips] = level;
            owners[strips] = owner;
            strips++;
        }

        boolean hasStrip(int strip) {
            return strip >= 0 && strip < strips;
        }

        boolean hasMark(int mark) {
            return strips > 0 && mark >= 0 && mark <= strips;
        }

        boolean isRock(int mark) {
            return mark == 0 || mark == strips;
        }

        boolean canDraw(int a, int b) {
            if (lost[a] || lost[b]) {
                return false;
            }
            for (int mark = a + 1; mark < b; mark++) {
                if (!lost[mark]) {
                    return false;
                }
            }
            return true;
        }

        void partRopes(int a, int b, int ropes) {
            int together = 0;
            for (int strip = a; strip < b; strip++) {
                together += register[strip];
            }
            if (together <= 0) {
                return;
            }
            int left = ropes;
            for (int strip = a; strip < b; strip++) {
                int due = ropes * register[strip];
                widths[strip] = due / together;
                rests[strip] = due % together;
                left -= widths[strip];
            }
            for (int i = 0; i < left; i++) {
                giveOneMore(a, b);
            }
        }

        private void giveOneMore(int a, int b) {
            int chosen = a;
            for (int strip = a + 1; strip < b; strip++) {
                if (rests[strip] > rests[chosen]) {
                    chosen = strip;
                }
            }
            widths[chosen]++;
            // Below every rest, as a strip gets one rope more at the most.
            rests[chosen] = -1;
        }

        int setMarksBetween(int a, int b) {
            for (int mark = a + 1; mark < b; mark++) {
                lost[mark] = false;
            }
            return b - a - 1;
        }

        int lostMarks() {
            int marks = 0;
            for (int mark = 0; mark <= strips; mark++) {
                if (lost[mark]) {
                    marks++;
                }
            }
            return marks;
        }

        int allWidths() {
            int ropes = 0;
            for (int strip = 0; strip < strips; strip++) {
                ropes += widths[strip];
            }
            return ropes;
        }
    }

    /** What a rope of land bears after so many wet days. */
    private static final class BearTable {
        private final int[] fromDays = new int[TABLE_ROWS];
        private final int[] sheavesARope = new int[TABLE_ROWS];

        int borneAfter(int wetDays) {
            int greatest = -1;
            int borne = 0;
            for (int row = 0; row < TABLE_ROWS; row++) {
                if (fromDays[row] <= wetDays && fromDays[row] >= greatest) {
                    greatest = fromDays[row];
                    borne = sheavesARope[row];
                }
            }
            return borne;
        }
    }

    /** Decrees in the order of their text: part of whole, with the number that bounds where each holds. */
    private static final class DecreeBook {
        private static final int TAX = 0;
        private static final int RELIEF = 1;
        private static final int FREE = 2;
        private static final int OFFICER = 3;

        private final int[] kinds = new int[MOST_DECREES];
        private final int[] parts = new int[MOST_DECREES];
        private final int[] wholes = new int[MOST_DECREES];
        private final int[] bounds = new int[MOST_DECREES];
        private int size = 0;

        void add(int kind, int part, int whole, int bound) {
            if (size < MOST_DECREES) {
                kinds[size] = kind;
                parts[size] = part;
                wholes[size] = whole;
                bounds[size] = bound;
                size++;
            }
        }

        boolean frees(int borne) {
            int decree = lastOf(FREE);
            return decree != NONE && borne < bounds[decree];
        }

        int taxOn(int borne, int peak) {
            int chosen = NONE;
            for (int i = 0; i < size; i++) {
                if (kinds[i] == TAX && bounds[i] <= peak && (chosen == NONE || bounds[i] >= bounds[chosen])) {
                    chosen = i;
                }
            }
            return partOf(borne, chosen);
        }

        int reliefOn(int tax, int wetDays) {
            int chosen = NONE;
            for (int i = 0; i < size; i++) {
                if (kinds[i] == RELIEF && bounds[i] > wetDays && (chosen == NONE || bounds[i] <= bounds[chosen])) {
                    chosen = i;
                }
            }
            return partOf(tax, chosen);
        }

        int officerPart(int tax) {
            return partOf(tax, lastOf(OFFICER));
        }

        private int lastOf(int kind) {
            int last = NONE;
            for (int i = 0; i < size; i++) {
                if (kinds[i] == kind) {
                    last = i;
                }
            }
            return last;
        }

        private int partOf(int amount, int decree) {
            return decree == NONE ? 0 : (int) share(amount, parts[decree], wholes[decree]);
        }
    }

    /** The bytes that were fed, each 0 to 255, and the reading of decrees off them, one token ahead. */
    private static final class Tape {
        private static final int AT_END = 0;
        private static final int WORD = 1;
        private static final int NUMBER = 2;
        private static final int SIGN = 3;

        private final int[] bytes = new int[TAPE_BYTES];
        private int length = 0;
        // The token ahead; where it starts is where a fault is told.
        private int kind = AT_END;
        private int start = 0;
        private int after = 0;

        void append(int fourBytes) {
            for (int shift = 24; shift >= 0; shift -= 8) {
                if (length < TAPE_BYTES) {
                    bytes[length] = (fourBytes >>> shift) & 255;
                    length++;
                }
            }
        }

        /** The place of the fault, or NONE. */
        int parseInto(DecreeBook into) {
            into.size = 0;
            after = 0;
            nextToken();
            if (kind == AT_END) {
                return NONE;
            }
            for (int i = 0; i < MOST_DECREES; i++) {
                if (!takeDecree(into)) {
                    return start;
                }
                if (kind == AT_END) {
                    return NONE;
                }
                if (!takeSemicolon()) {
                    return start;
                }
            }
            return start;
        }

        private boolean takeDecree(DecreeBook into) {
            int decree = takeDecreeKind();
            if (decree == NONE) {
                return false;
            }
            int first = takeNumber(0);
            if (first == NONE) {
                return false;
            }
            if (decree == DecreeBook.FREE) {
                into.add(decree, 0, 1, first);
                return true;
            }
            if (!takeWord("of")) {
                return false;
            }
            int whole = takeNumber(Math.max(1, first));
            if (whole == NONE) {
                return false;
            }
            int bound = takeBound(decree);
            if (bound == NONE) {
                return false;
            }
            into.add(decree, first, whole, bound);
            return true;
        }

        private int takeDecreeKind() {
            if (takeWord("tax")) {
                return DecreeBook.TAX;
            }
            if (takeWord("relief")) {
                return DecreeBook.RELIEF;
            }
            if (takeWord("free")) {
                return DecreeBook.FREE;
            }
            return takeWord("officer") ? DecreeBook.OFFICER : NONE;
        }

        private int takeBound(int decree) {
            if (decree == DecreeBook.OFFICER) {
                return 0;
            }
            boolean named = decree == DecreeBook.TAX ? takeWord("from") : takeWord("below");
            return named ? takeNumber(0) : NONE;
        }

        private int takeNumber(int least) {
            if (kind != NUMBER) {
                return NONE;
            }
            int number = numberAhead();
            if (number < least || number > MOST_NUMBER) {
                return NONE;
            }
            nextToken();
            return number;
        }

        private int numberAhead() {
            int number = 0;
            for (int place = start; place < after; place++) {
                // Held just above the most, so that a long row of digits can't wrap around.
                number = Math.min(number * 10 + bytes[place] - '0', MOST_NUMBER + 1);
            }
            return number;
        }

        private boolean takeWord(String word) {
            if (kind != WORD || after - start != word.length()) {
                return false;
            }
            for (int i = 0; i < word.length(); i++) {
                if (bytes[start + i] != word.charAt(i)) {
                    return false;
                }
            }
            nextToken();
            return true;
        }

        private boolean takeSemicolon() {
            if (kind != SIGN || bytes[start] != ';') {
                return false;
            }
            nextToken();
            return true;
        }

        private void nextToken() {
            start = after;
            while (start < length && bytes[start] == ' ') {
                start++;
            }
            kind = kindAt(start);
            int limit = kind == SIGN ? start + 1 : length;
            after = start;
            while (after < limit && kindAt(after) == kind) {
                after++;
            }
        }

        private int kindAt(int place) {
            if (place >= length) {
                return AT_END;
            }
            int code = bytes[place];
            if (code >= 'a' && code <= 'z') {
                return WORD;
            }
            return code >= '0' && code <= '9' ? NUMBER : SIGN;
        }
    }

    /** How the harvest of the strip assessed last is parted. */
    private static final class Levy {
        private int due = 0;
        private int relieved = 0;
        private int toOfficer = 0;
        private int toKing = 0;
        private int toOwner = 0;

        void assess(DecreeBook book, int borne, int wetDays, int peak) {
            int before = book.frees(borne) ? 0 : book.taxOn(borne, peak);
            relieved = book.reliefOn(before, wetDays);
            due = before - relieved;
            toOfficer = book.officerPart(due);
            toKing = due - toOfficer;
            toOwner = borne - due;
        }
    }

    /** What officers took, and the sums by strip for the officer asked for last. */
    private static final class Takings {
        private final int[] officers = new int[MOST_TAKEN];
        private final int[] strips = new int[MOST_TAKEN];
        private final int[] amounts = new int[MOST_TAKEN];
        private final int[] knownFrom = new int[MOST_TAKEN];
        private final int[] own = new int[MOST_STRIPS];
        private final int[] all = new int[MOST_STRIPS];
        private int size = 0;

        void add(int officer, int strip, int amount, int known) {
            officers[size] = officer;
            strips[size] = strip;
            amounts[size] = amount;
            knownFrom[size] = known;
            size++;
        }

        void sumUp(int officer, int known) {
            for (int strip = 0; strip < MOST_STRIPS; strip++) {
                own[strip] = 0;
                all[strip] = 0;
            }
            for (int i = 0; i < size; i++) {
                if (knownFrom[i] <= known) {
                    all[strips[i]] += amounts[i];
                    if (officers[i] == officer) {
                        own[strips[i]] += amounts[i];
                    }
                }
            }
        }
    }
}
