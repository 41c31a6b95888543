import java.math.BigInteger;
import java.util.ArrayList;
import java.util.Comparator;
import java.util.List;
import java.util.regex.Matcher;
import java.util.regex.Pattern;

/** The document once more, as plainly as the Java library allows, to be held against FloodTax. */
final class PlainModel {
    record Reading(int day, int height, int known) {
    }

    record Taken(int officer, int strip, int sheaves, int known) {
    }

    record Decree(String kind, int a, int b, int bound) {
    }

    static final class Strip {
        int width;
        int register;
        int level;
        int owner;
    }

    final List<Reading> readings = new ArrayList<>();
    final List<Strip> strips = new ArrayList<>();
    final List<Boolean> standing = new ArrayList<>();
    final int[][] table = new int[8][2];
    final List<Taken> taken = new ArrayList<>();
    List<Decree> decrees = new ArrayList<>();
    String tape = "";
    int fault = -1;
    int status = 0;

    private static boolean in(int n, int from, int to) {
        return from <= n && n <= to;
    }

    private int answer(int n) {
        status = Math.min(n, 0);
        return n;
    }

    int read(int day, int height, int known) {
        if (!in(day, 0, 119) || !in(height, 0, 400) || !in(known, 0, 1000)) {
            return answer(-1);
        }
        if (readings.size() == 300) {
            return answer(-5);
        }
        readings.add(new Reading(day, height, known));
        return answer(readings.size());
    }

    /** Height as known on a day, of days behind the last one none told. */
    private int heightOf(int day, int known, int last) {
        for (int d = day; d >= 0; d--) {
            for (int i = readings.size() - 1; i >= 0 && d <= last; i--) {
                if (readings.get(i).day == d && readings.get(i).known <= known) {
                    return readings.get(i).height;
                }
            }
        }
        return 0;
    }

    int height(int day, int known) {
        return in(day, 0, 119) && in(known, 0, 1000) ? heightOf(day, known, 119) : -1;
    }

    int peak(int known) {
        int most = -1;
        for (int day = 0; day < 120; day++) {
            most = Math.max(most, height(day, known));
        }
        return most;
    }

    int strip(int width, int level, int owner) {
        if (!in(width, 1, 400) || !in(level, 0, 400) || !in(owner, 0, 19)) {
            return answer(-1);
        }
        if (strips.size() == 24) {
            return answer(-5);
        }
        if (strips.isEmpty()) {
            standing.add(true);
        }
        standing.add(true);
        Strip s = new Strip();
        s.width = width;
        s.register = width;
        s.level = level;
        s.owner = owner;
        strips.add(s);
        return answer(strips.size() - 1);
    }

    private boolean isStrip(int strip) {
        return in(strip, 0, strips.size() - 1);
    }

    private boolean isMark(int mark) {
        return in(mark, 0, standing.size() - 1);
    }

    int of(int strip, int what) {
        if (!isStrip(strip) || !in(what, 0, 3)) {
            return -1;
        }
        Strip s = strips.get(strip);
        return new int[] {s.width, s.register, s.level, s.owner}[what];
    }

    int lose(int mark) {
        if (!isMark(mark)) {
            return answer(-2);
        }
        if (mark == 0 || mark == strips.size() || !standing.get(mark)) {
            return answer(-3);
        }
        standing.set(mark, false);
        return answer(0);
    }

    int draw(int a, int b, int ropes) {
        if (b <= a || !in(ropes, 0, 10000)) {
            return answer(-1);
        }
        if (!isMark(a) || !isMark(b)) {
            return answer(-2);
        }
        if (!standing.get(a) || !standing.get(b) || standing.subList(a + 1, b).contains(true)) {
            return answer(-3);
        }
        List<Strip> drawn = new ArrayList<>(strips.subList(a, b));
        int together = drawn.stream().mapToInt(s -> s.register).sum();
        drawn.forEach(s -> s.width = ropes * s.register / together);
        int left = ropes - drawn.stream().mapToInt(s -> s.width).sum();
        drawn.sort(Comparator.comparingInt(s -> -(ropes * s.register % together)));
        drawn.subList(0, left).forEach(s -> s.width++);
        for (int mark = a + 1; mark < b; mark++) {
            standing.set(mark, true);
        }
        return answer(b - a - 1);
    }

    int stands(int mark) {
        return !isMark(mark) ? -1 : standing.get(mark) ? 1 : 0;
    }

    int table(int k, int days, int sheaves) {
        if (!in(k, 0, 7) || !in(days, 0, 120) || !in(sheaves, 0, 100)) {
            return answer(-1);
        }
        table[k] = new int[] {days, sheaves};
        return answer(0);
    }

    private int wetDays(int strip, int known, int last) {
        int wet = 0;
        for (int day = 0; day < 120; day++) {
            wet += heightOf(day, known, last) >= strips.get(strip).level ? 1 : 0;
        }
        return wet;
    }

    private int borne(int strip, int known, int last) {
        int wet = wetDays(strip, known, last);
        for (int days = wet; days >= 0; days--) {
            for (int k = 7; k >= 0; k--) {
                if (table[k][0] == days) {
                    return table[k][1] * strips.get(strip).width;
                }
            }
        }
        return 0;
    }

    int wet(int strip, int known) {
        return isStrip(strip) && in(known, 0, 1000) ? wetDays(strip, known, 119) : -1;
    }

    int harvest(int strip, int known) {
        return isStrip(strip) && in(known, 0, 1000) ? borne(strip, known, 119) : -1;
    }

    int foretold(int strip, int day) {
        return isStrip(strip) && in(day, 0, 119) ? borne(strip, day, day) : -1;
    }

    int feed(int... numbers) {
        if (tape.length() > 180) {
            return -1;
        }
        for (int n : numbers) {
            for (int i = 3; i >= 0; i--) {
                tape += (char) (n >> 8 * i & 0xff);
            }
        }
        return tape.length();
    }

    int end(int n) {
        if (!in(n, 0, tape.length())) {
            return -1;
        }
        tape = tape.substring(0, n);
        return n;
    }

    /** The longest beginnings that are right are grown token by token; the first token that ends this is the fault. */
    int decrees() {
        List<String> tokens = new ArrayList<>();
        List<Integer> places = new ArrayList<>();
        Matcher m = Pattern.compile("[a-z]+|[0-9]+|[^ ]", Pattern.DOTALL).matcher(tape);
        while (m.find()) {
            tokens.add(m.group());
            places.add(m.start());
        }
        places.add(tape.length());
        tokens.add("");
        tape = "";
        fault = -1;
        List<Decree> made = new ArrayList<>();
        int at = 0;
        while (tokens.size() > 1) {
            String kind = tokens.get(at);
            String form = switch (kind) {
                case "tax" -> "N of M from N";
                case "relief" -> "N of M below N";
                case "free" -> "N";
                case "officer" -> "N of M";
                default -> "";
            };
            if (form.isEmpty() || made.size() == 20) {
                return faultAt(places.get(at));
            }
            List<Integer> numbers = new ArrayList<>();
            for (String part : form.split(" ")) {
                at++;
                String token = tokens.get(at);
                if (part.equals("N") || part.equals("M")) {
                    int least = part.equals("N") ? 0 : Math.max(1, numbers.get(0));
                    if (!token.matches("[0-9]+") || new BigInteger(token).compareTo(BigInteger.valueOf(10000)) > 0
                        || new BigInteger(token).intValue() < least) {
                        return faultAt(places.get(at));
                    }
                    numbers.add(new BigInteger(token).intValue());
                } else if (!token.equals(part)) {
                    return faultAt(places.get(at));
                }
            }
            int n = numbers.size();
            made.add(new Decree(kind, numbers.get(0), n > 1 ? numbers.get(1) : 1, numbers.get(n - 1)));
            at++;
            if (tokens.get(at).isEmpty()) {
                break;
            }
            if (!tokens.get(at).equals(";")) {
                return faultAt(places.get(at));
            }
            at++;
        }
        decrees = made;
        return answer(made.size());
    }

    private int faultAt(int place) {
        fault = place;
        return answer(-6);
    }

    private List<Decree> all(String kind) {
        List<Decree> found = new ArrayList<>();
        for (Decree d : decrees) {
            if (d.kind.equals(kind)) {
                found.add(0, d);
            }
        }
        return found;
    }

    private static int share(int n, Decree d) {
        return (int) ((long) n * d.a / d.b);
    }

    int tax(int strip, int known, int what) {
        if (!isStrip(strip) || !in(known, 0, 1000) || !in(what, 0, 4)) {
            return -1;
        }
        int borne = harvest(strip, known);
        int peak = peak(known);
        int wet = wet(strip, known);
        boolean freed = !all("free").isEmpty() && borne < all("free").get(0).bound;
        // The lists begin with the last, and a stable order keeps it ahead of alike ones.
        int full = freed ? 0 : all("tax").stream().filter(d -> d.bound <= peak)
            .sorted(Comparator.comparingInt(d -> -d.bound)).findFirst().map(d -> share(borne, d)).orElse(0);
        int relief = all("relief").stream().filter(d -> d.bound > wet)
            .sorted(Comparator.comparingInt(d -> d.bound)).findFirst().map(d -> share(full, d)).orElse(0);
        int net = full - relief;
        int officer = all("officer").stream().findFirst().map(d -> share(net, d)).orElse(0);
        return new int[] {net, relief, officer, net - officer, borne - net}[what];
    }

    int take(int officer, int strip, int sheaves, int known) {
        if (!in(officer, 0, 9) || !in(sheaves, 0, 1000000) || !in(known, 0, 1000)) {
            return answer(-1);
        }
        if (!isStrip(strip)) {
            return answer(-2);
        }
        if (taken.size() == 200) {
            return answer(-5);
        }
        taken.add(new Taken(officer, strip, sheaves, known));
        return answer(taken.size());
    }

    long gain(int officer, int known) {
        if (!in(officer, 0, 9) || !in(known, 0, 1000)) {
            return -1;
        }
        long sum = 0;
        for (int s = 0; s < strips.size(); s++) {
            final int strip = s;
            long all = taken.stream().filter(t -> t.strip == strip && t.known <= known).mapToLong(t -> t.sheaves).sum();
            long own = taken.stream().filter(t -> t.strip == strip && t.known <= known && t.officer == officer).mapToLong(t -> t.sheaves).sum();
            if (own > 0) {
                sum += Math.max(0, all - tax(strip, known, 0)) * own / all;
            }
        }
        return sum;
    }

    int sheaves(int known) {
        int sum = 0;
        for (int strip = 0; strip < strips.size(); strip++) {
            sum += harvest(strip, known);
        }
        return in(known, 0, 1000) ? sum : -1;
    }

    int led(int sheaf, int known, int what) {
        if (sheaf < 0 || !in(known, 0, 1000) || !in(what, 0, 1)) {
            return -1;
        }
        int end = 0;
        for (int strip = 0; strip < strips.size(); strip++) {
            for (int who = 0; who < 3; who++) {
                end += tax(strip, known, 2 + who);
                if (sheaf < end) {
                    return what == 0 ? strip : who;
                }
            }
        }
        return -1;
    }

    int count(int what) {
        if (!in(what, 0, 6)) {
            return -1;
        }
        int lost = (int) standing.stream().filter(s -> !s).count();
        int ropes = strips.stream().mapToInt(s -> s.width).sum();
        return new int[] {readings.size(), strips.size(), lost, decrees.size(), taken.size(), tape.length(), ropes}[what];
    }
}
