import java.util.Random;

/** Texts of pages, told and made up. */
final class Texts {
    private Texts() { }

    /** Feeds a text, filled up with blanks, and reads as much of it as it has. */
    static int page(ShapePour x, String text) {
        for (int[] five : fives(text)) {
            x.feed(five[0], five[1], five[2], five[3], five[4]);
        }
        return x.page(text.length());
    }

    static int[][] fives(String text) {
        int[][] all = new int[(text.length() + 19) / 20][5];
        for (int i = 0; i < all.length * 20; i++) {
            int c = i < text.length() ? text.charAt(i) & 255 : 32;
            all[i / 20][i % 20 / 4] |= c << 24 - i % 4 * 8;
        }
        return all;
    }

    private static final String[] NAMES = {"page", "box", "circle", "wedge", "tie", "words", "wide", "gap", "if", "then",
        "else", "end", "not", "and", "or", "ink", "size", "word", "first", "shape", "line", "lines", "high", "least"};
    private static final String SIGNS = ";:+-*()[]=<>";

    /** A text of a page, mostly without a fault. */
    static String some(Random r) {
        String text = faultless(r);
        int changes = r.nextInt(3) == 0 ? 1 + r.nextInt(2) : 0;
        for (int i = 0; i < changes; i++) {
            text = changed(r, text);
        }
        return text.length() > 900 ? text.substring(0, 900) : text;
    }

    private static String changed(Random r, String text) {
        int at = r.nextInt(text.length() + 1);
        String head = text.substring(0, at);
        String tail = text.substring(at);
        switch (r.nextInt(7)) {
            case 0: return head;
            case 1: return head + SIGNS.charAt(r.nextInt(SIGNS.length())) + tail;
            case 2: return head + " " + NAMES[r.nextInt(NAMES.length)] + " " + tail;
            case 3: return head + r.nextInt(1200) + tail;
            case 4: return head + (char) r.nextInt(256) + tail;
            case 5: return tail.isEmpty() ? head : head + tail.substring(1);
            default: return head + (r.nextBoolean() ? "( " : "not ") + tail;
        }
    }

    /** Many lines, shapes and words, and all shapes tied: such pages often go on for many rounds. */
    private static String dense(Random r) {
        StringBuilder b = new StringBuilder();
        put(b, r, "page", "wide", "" + (10 + r.nextInt(40)), "lines", "20", "high", "" + (1 + r.nextInt(10)), "least",
            "" + (1 + r.nextInt(4)), "ink", "0", ";");
        for (int s = 0; s < 6; s++) {
            shape(b, r, 40, 50);
            put(b, r, "tie", "" + s, "" + r.nextInt(30), ";");
        }
        put(b, r, "words");
        for (int w = 0; w < 30; w++) {
            put(b, r, "abcdefghijkl".substring(r.nextInt(12)));
        }
        put(b, r, ";");
        return b.toString();
    }

    static String faultless(Random r) {
        if (r.nextInt(5) == 0) {
            return dense(r);
        }
        StringBuilder b = new StringBuilder();
        int wide = r.nextInt(5) == 0 ? 10 + r.nextInt(191) : 10 + r.nextInt(40);
        int lines = 1 + r.nextInt(r.nextBoolean() ? 20 : 6);
        int high = 1 + r.nextInt(r.nextInt(4) == 0 ? 20 : 6);
        put(b, r, "page", "wide", "" + wide, "lines", "" + lines, "high", "" + high, "least", "" + (1 + r.nextInt(r.nextInt(6) == 0 ? 50 : 6)),
            "ink", "" + r.nextInt(10), ";");
        int shapes = 0;
        int rows = r.nextInt(14);
        boolean laws = r.nextBoolean();
        for (int i = 0; i < rows && b.length() < 700; i++) {
            switch (r.nextInt(laws ? 9 : 7)) {
                case 0: case 1: case 2: case 3:
                    if (shapes < 6 || r.nextInt(12) == 0) {
                        shape(b, r, wide, lines * high);
                        shapes++;
                    }
                    break;
                case 4: case 5:
                    if (shapes > 0) {
                        put(b, r, "tie", "" + r.nextInt(shapes), "" + r.nextInt(r.nextInt(4) == 0 ? 30 : 10), ";");
                    }
                    break;
                case 6:
                    words(b, r);
                    break;
                case 7:
                    put(b, r, "wide", ":");
                    sum(b, r, true, r.nextInt(5));
                    put(b, r, ";");
                    break;
                default:
                    put(b, r, "gap", ":");
                    sum(b, r, false, r.nextInt(5));
                    put(b, r, ";");
                    break;
            }
        }
        words(b, r);
        if (r.nextInt(3) == 0) {
            put(b, r, "tie", "0", "0", ";");
        }
        return b.toString();
    }

    private static void shape(StringBuilder b, Random r, int wide, int deep) {
        String x = "" + r.nextInt(Math.min(201, wide + 10));
        String y = "" + r.nextInt(Math.min(401, deep + 5));
        String a = "" + (1 + r.nextInt(r.nextInt(8) == 0 ? 100 : r.nextInt(3) == 0 ? 25 : 12));
        String h = "" + (1 + r.nextInt(r.nextInt(8) == 0 ? 200 : 12));
        switch (r.nextInt(3)) {
            case 0: put(b, r, "box", x, y, a, h, ";"); break;
            case 1: put(b, r, "circle", x, y, a, ";"); break;
            default: put(b, r, "wedge", x, y, a, h, ";"); break;
        }
    }

    private static void words(StringBuilder b, Random r) {
        put(b, r, "words");
        int n = r.nextInt(r.nextBoolean() ? 8 : 16);
        int longest = 1 + r.nextInt(12);
        for (int i = 0; i < n && b.length() < 860; i++) {
            StringBuilder w = new StringBuilder();
            int letters = 1 + r.nextInt(longest);
            for (int k = 0; k < letters; k++) {
                w.append((char) ('a' + r.nextInt(26)));
            }
            put(b, r, w.toString());
        }
        put(b, r, ";");
    }

    private static void sum(StringBuilder b, Random r, boolean ofWide, int deep) {
        int n = 1 + r.nextInt(3);
        for (int i = 0; i < n; i++) {
            if (i > 0) {
                put(b, r, r.nextBoolean() ? "+" : "-");
            }
            atom(b, r, ofWide, deep);
            for (int k = r.nextInt(3); k > 1; k--) {
                put(b, r, "*");
                atom(b, r, ofWide, deep);
            }
        }
    }

    private static void atom(StringBuilder b, Random r, boolean ofWide, int deep) {
        if (deep > 0 && b.length() < 600 && r.nextInt(3) > 0) {
            if (r.nextInt(3) == 0) {
                put(b, r, "(");
                sum(b, r, ofWide, deep - 1);
                put(b, r, ")");
            } else {
                put(b, r, "if");
                truth(b, r, ofWide, deep - 1);
                put(b, r, "then");
                sum(b, r, ofWide, deep - 1);
                put(b, r, "else");
                sum(b, r, ofWide, deep - 1);
                put(b, r, "end");
            }
            return;
        }
        String[] names = ofWide ? new String[] {"ink", "size", "word", "first"} : new String[] {"ink", "shape", "line"};
        put(b, r, r.nextInt(3) == 0 ? "" + r.nextInt(r.nextInt(4) == 0 ? 1000 : 10) : names[r.nextInt(names.length)]);
    }

    private static void truth(StringBuilder b, Random r, boolean ofWide, int deep) {
        int n = r.nextInt(4) == 0 ? 2 + r.nextInt(2) : 1;
        for (int i = 0; i < n; i++) {
            if (i > 0) {
                put(b, r, r.nextBoolean() ? "or" : "and");
            }
            if (deep > 0 && r.nextInt(3) == 0) {
                if (r.nextBoolean()) {
                    put(b, r, "not");
                    put(b, r, "[");
                    truth(b, r, ofWide, deep - 2);
                    put(b, r, "]");
                    continue;
                }
                put(b, r, "not");
            }
            sum(b, r, ofWide, Math.max(0, deep - 1));
            put(b, r, "" + "=<>".charAt(r.nextInt(3)));
            sum(b, r, ofWide, Math.max(0, deep - 1));
        }
    }

    /** Puts tokens, with blanks where two would run into one. */
    private static void put(StringBuilder b, Random r, String... tokens) {
        for (String t : tokens) {
            char last = b.length() == 0 ? ' ' : b.charAt(b.length() - 1);
            boolean runs = Character.isLetter(last) && Character.isLetter(t.charAt(0))
                || Character.isDigit(last) && Character.isDigit(t.charAt(0));
            if (runs || r.nextInt(8) == 0) {
                b.append(r.nextInt(6) == 0 ? '\n' : ' ');
            }
            b.append(t);
        }
    }
}
