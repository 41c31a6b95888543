/** Puts a text on a tape that is empty. */
final class Texts {
    private Texts() {
    }

    static void put(FloodTax x, String text) {
        StringBuilder padded = new StringBuilder(text);
        while (padded.length() % 20 != 0) {
            padded.append('?');
        }
        for (int at = 0; at < padded.length(); at += 20) {
            x.feed(word(padded, at), word(padded, at + 4), word(padded, at + 8), word(padded, at + 12), word(padded, at + 16));
        }
        x.end(text.length());
    }

    static int decree(FloodTax x, String text) {
        put(x, text);
        return x.decrees();
    }

    static int word(CharSequence text, int at) {
        return text.charAt(at) << 24 | text.charAt(at + 1) << 16 | text.charAt(at + 2) << 8 | text.charAt(at + 3);
    }
}
