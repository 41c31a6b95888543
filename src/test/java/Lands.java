/** Lands that many tests begin with. */
final class Lands {
    private Lands() {
    }

    /** Strips of these widths, always wet, on which nothing grows. */
    static FloodTax ofWidths(int... widths) {
        FloodTax x = new FloodTax();
        for (int width : widths) {
            x.strip(width, 0, 0);
        }
        return x;
    }

    /** Strips that bear so many sheaves each, always. */
    static FloodTax bearing(int... sheaves) {
        FloodTax x = ofWidths(sheaves);
        x.table(7, 0, 1);
        return x;
    }

    /** As many strips of one rope as there can be. */
    static FloodTax full() {
        FloodTax x = new FloodTax();
        for (int i = 0; i < 24; i++) {
            x.strip(1, 0, 0);
        }
        return x;
    }

    /** A strip of one rope at level 10 that is wet on DAYS 0 .. days - 1 alone. */
    static FloodTax wetFor(int days) {
        FloodTax x = new FloodTax();
        x.strip(1, 10, 0);
        x.read(0, days > 0 ? 10 : 9, 0);
        if (days > 0 && days < 120) {
            x.read(days, 9, 0);
        }
        return x;
    }

    static void lose(FloodTax x, int... marks) {
        for (int mark : marks) {
            x.lose(mark);
        }
    }

    static void widths(String when, FloodTax x, int... want) {
        for (int i = 0; i < want.length; i++) {
            Check.due(when + ": of(" + i + ", 0)", x.of(i, 0), want[i]);
        }
    }
}
