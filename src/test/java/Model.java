import java.math.BigInteger;
import java.util.ArrayDeque;
import java.util.ArrayList;
import java.util.HashMap;
import java.util.List;
import java.util.Map;
import java.util.TreeSet;
import java.util.regex.Matcher;
import java.util.regex.Pattern;

/**
 * The document's promises once more, written another way than the class: with the Java library,
 * floats and Math.sqrt as the document has them, and a row of columns for each line. Tests compare
 * both.
 */
final class Model {
    static final int NONE = -1;

    // ---- the laws, as trees

    interface Told {
        int by(Map<String, Integer> known);
    }

    interface Holds {
        boolean by(Map<String, Integer> known);
    }

    static int kept(long v) {
        return (int) Math.max(-1_000_000L, Math.min(1_000_000L, v));
    }

    static final class Fault extends RuntimeException {
        private static final long serialVersionUID = 1L;
        final int kind;
        final int place;

        Fault(int kind, int place) {
            this.kind = kind;
            this.place = place;
        }
    }

    record Token(String text, int place, char sort) { }

    record Figure(int kind, int a, int b) { }

    static final class Sheet {
        int wide = 40;
        int lines = 10;
        int high = 5;
        int least = 4;
        int told = 0;
        final List<Figure> figures = new ArrayList<>();
        final List<String> words = new ArrayList<>();
        Told wideLaw = null;
        Told gapLaw = null;
    }

    static final class Held {
        final List<Integer> x = new ArrayList<>();
        final List<Integer> y = new ArrayList<>();
        final List<Integer> tie = new ArrayList<>();
        final TreeSet<Integer> hidden = new TreeSet<>();
        int ink = 0;

        Held copy() {
            Held h = new Held();
            h.x.addAll(x);
            h.y.addAll(y);
            h.tie.addAll(tie);
            h.hidden.addAll(hidden);
            h.ink = ink;
            return h;
        }
    }

    // ---- reading

    static final class Parser {
        private static final Pattern TOKEN = Pattern.compile("[a-z]+|[0-9]+|[;:+\\-*()\\[\\]=<>]");
        final List<Token> tokens = new ArrayList<>();
        int i = 0;
        final Sheet sheet = new Sheet();
        final Held held = new Held();
        boolean ofWide;

        Parser(String text) {
            Matcher m = TOKEN.matcher(text);
            int p = 0;
            while (p < text.length()) {
                char c = text.charAt(p);
                if (c == 10 || c == 32) {
                    p++;
                    continue;
                }
                if (!m.region(p, text.length()).lookingAt()) {
                    tokens.add(new Token("", p, '?'));
                    break;
                }
                String t = m.group();
                char sort = Character.isDigit(t.charAt(0)) ? '0' : Character.isLetter(t.charAt(0)) ? 'a' : 's';
                if (sort == '0' && t.length() > 3) {
                    sort = '?';
                }
                tokens.add(new Token(t, p, sort));
                p += t.length();
            }
            tokens.add(new Token("", text.length(), '$'));
        }

        Token look() {
            Token t = tokens.get(i);
            if (t.sort == '?') {
                throw new Fault(1, t.place);
            }
            return t;
        }

        boolean sees(String text) {
            Token t = look();
            return t.sort != '$' && t.text.equals(text);
        }

        Fault stray() {
            return new Fault(2, look().place);
        }

        void take(String text) {
            if (!sees(text)) {
                throw stray();
            }
            i++;
        }

        int n(int least, int most) {
            Token t = look();
            if (t.sort != '0') {
                throw stray();
            }
            int v = Integer.parseInt(t.text);
            if (v < least || v > most) {
                throw new Fault(3, t.place);
            }
            i++;
            return v;
        }

        void parse() {
            take("page");
            take("wide");
            sheet.wide = n(10, 200);
            take("lines");
            sheet.lines = n(1, 20);
            take("high");
            sheet.high = n(1, 20);
            take("least");
            sheet.least = n(1, 50);
            take("ink");
            held.ink = n(0, 9);
            take(";");
            sheet.told = 1;
            while (look().sort != '$') {
                parseLine();
                take(";");
                sheet.told++;
            }
        }

        void parseLine() {
            Token t = look();
            if (t.sort != 'a') {
                throw stray();
            }
            switch (t.text) {
                case "box", "circle", "wedge" -> parseFigure(t);
                case "tie" -> {
                    i++;
                    int s = n(0, sheet.figures.size() - 1);
                    held.tie.set(s, n(0, 29));
                }
                case "words" -> {
                    i++;
                    while (look().sort == 'a') {
                        Token w = look();
                        if (w.text.length() > 12) {
                            throw new Fault(3, w.place);
                        }
                        if (sheet.words.size() == 30) {
                            throw new Fault(4, w.place);
                        }
                        sheet.words.add(w.text);
                        i++;
                    }
                }
                case "wide" -> {
                    i++;
                    take(":");
                    ofWide = true;
                    sheet.wideLaw = sum(0);
                }
                case "gap" -> {
                    i++;
                    take(":");
                    ofWide = false;
                    sheet.gapLaw = sum(0);
                }
                default -> throw stray();
            }
        }

        void parseFigure(Token t) {
            if (sheet.figures.size() == 6) {
                throw new Fault(4, t.place);
            }
            i++;
            int kind = t.text.equals("box") ? 0 : t.text.equals("circle") ? 1 : 2;
            int x = n(0, 200);
            int y = n(0, 400);
            int a = n(1, kind == 0 ? 200 : 100);
            int b = kind == 1 ? 0 : n(1, 200);
            sheet.figures.add(new Figure(kind, a, b));
            held.x.add(x);
            held.y.add(y);
            held.tie.add(NONE);
        }

        void open(int within) {
            if (within == 6) {
                throw new Fault(4, look().place);
            }
            i++;
        }

        Told sum(int within) {
            Told all = term(within);
            while (sees("+") || sees("-")) {
                boolean plus = sees("+");
                i++;
                Told a = all;
                Told b = term(within);
                all = plus ? k -> kept((long) a.by(k) + b.by(k)) : k -> kept((long) a.by(k) - b.by(k));
            }
            return all;
        }

        Told term(int within) {
            Told all = atom(within);
            while (sees("*")) {
                i++;
                Told a = all;
                Told b = atom(within);
                all = k -> kept((long) a.by(k) * b.by(k));
            }
            return all;
        }

        Told atom(int within) {
            Token t = look();
            if (t.sort == '0') {
                int v = n(0, 999);
                return k -> v;
            }
            if (sees("(")) {
                open(within);
                Told in = sum(within + 1);
                take(")");
                return in;
            }
            if (sees("if")) {
                open(within);
                Holds when = truth(within + 1);
                take("then");
                Told yes = sum(within + 1);
                take("else");
                Told no = sum(within + 1);
                take("end");
                return k -> when.by(k) ? yes.by(k) : no.by(k);
            }
            List<String> names = ofWide ? List.of("ink", "size", "word", "first") : List.of("ink", "shape", "line");
            if (t.sort != 'a' || !names.contains(t.text)) {
                throw stray();
            }
            i++;
            return k -> k.get(t.text);
        }

        Holds truth(int within) {
            Holds all = both(within);
            while (sees("or")) {
                i++;
                Holds a = all;
                Holds b = both(within);
                all = k -> a.by(k) || b.by(k);
            }
            return all;
        }

        Holds both(int within) {
            Holds all = unit(within);
            while (sees("and")) {
                i++;
                Holds a = all;
                Holds b = unit(within);
                all = k -> a.by(k) && b.by(k);
            }
            return all;
        }

        Holds unit(int within) {
            if (sees("not")) {
                open(within);
                Holds in = unit(within + 1);
                return k -> !in.by(k);
            }
            if (sees("[")) {
                open(within);
                Holds in = truth(within + 1);
                take("]");
                return in;
            }
            Told a = sum(within);
            if (!sees("=") && !sees("<") && !sees(">")) {
                throw stray();
            }
            char sign = look().text.charAt(0);
            i++;
            Told b = sum(within);
            return k -> sign == '=' ? a.by(k) == b.by(k) : sign == '<' ? a.by(k) < b.by(k) : a.by(k) > b.by(k);
        }
    }

    // ---- the setting

    record Gap(int line, int left, int right, List<Integer> words) { }

    static final class Laid {
        List<List<Gap>> lines = new ArrayList<>();
        List<Integer> figureY = new ArrayList<>(); // null: not there
        Map<Integer, int[]> places = new HashMap<>(); // word: line, left, slot of line
        List<Integer> tiedLines = new ArrayList<>();
        int round;
        int still;
        int clash;

        int last() {
            return places.values().stream().mapToInt(p -> p[0]).max().orElse(NONE);
        }

        List<Gap> gaps() {
            List<Gap> all = new ArrayList<>();
            lines.forEach(all::addAll);
            return all;
        }
    }

    static int wideOf(Sheet sheet, int w, int ink) {
        String text = sheet.words.get(w);
        if (sheet.wideLaw == null) {
            return text.length();
        }
        int told = sheet.wideLaw.by(Map.of("ink", ink, "size", text.length(), "word", w, "first", text.charAt(0) - 96));
        return Math.max(1, Math.min(200, told));
    }

    static int gapOf(Sheet sheet, int s, int line, int ink) {
        if (sheet.gapLaw == null) {
            return 0;
        }
        int told = sheet.gapLaw.by(Map.of("ink", ink, "shape", s, "line", line));
        return Math.max(0, Math.min(20, told));
    }

    /** Left and right, or null. */
    static int[] spanOf(Sheet sheet, int s, int x, int y, int line, int ink) {
        Figure f = sheet.figures.get(s);
        int top = line * sheet.high;
        int foot = (line + 1) * sheet.high;
        int left;
        int right;
        if (f.kind == 1) {
            int d = 0;
            if (y < top) {
                d = top - y;
            }
            if (y > foot) {
                d = y - foot;
            }
            int r = f.a;
            if (d >= r) {
                return null;
            }
            float half = (float) Math.sqrt((float) (r * r - d * d));
            left = (int) Math.floor((float) x - half);
            right = (int) Math.ceil((float) x + half);
        } else {
            if (!(y < foot && y + f.b > top)) {
                return null;
            }
            if (f.kind == 0) {
                left = x;
                right = x + f.a;
            } else {
                int at = Math.min(foot, y + f.b) - y;
                float half = (float) f.a * at / f.b;
                left = (int) Math.floor((float) x - half);
                right = (int) Math.ceil((float) x + half);
            }
        }
        int gap = gapOf(sheet, s, line, ink);
        return new int[] {left - gap, right + gap};
    }

    static Laid pour(Sheet sheet, Held held, int wide, List<Integer> figureY) {
        Laid laid = new Laid();
        laid.figureY = figureY;
        List<Gap> flow = new ArrayList<>();
        for (int line = 0; line < sheet.lines; line++) {
            boolean[] taken = new boolean[wide];
            for (int s = 0; s < sheet.figures.size(); s++) {
                if (figureY.get(s) == null) {
                    continue;
                }
                int[] span = spanOf(sheet, s, held.x.get(s), figureY.get(s), line, held.ink);
                for (int c = 0; span != null && c < wide; c++) {
                    taken[c] |= c >= span[0] && c < span[1];
                }
            }
            List<Gap> gaps = new ArrayList<>();
            int c = 0;
            while (c < wide) {
                int from = c;
                while (c < wide && !taken[c]) {
                    c++;
                }
                if (c - from >= sheet.least) {
                    gaps.add(new Gap(line, from, c, new ArrayList<>()));
                }
                c++;
            }
            laid.lines.add(gaps);
            flow.addAll(gaps);
        }
        int at = 0;
        int free = flow.isEmpty() ? 0 : flow.get(0).left;
        for (int w = 0; w < sheet.words.size(); w++) {
            if (held.hidden.contains(w)) {
                continue;
            }
            int takes = wideOf(sheet, w, held.ink);
            if (at < flow.size() && free + takes > flow.get(at).right) {
                at++;
                while (at < flow.size() && flow.get(at).right - flow.get(at).left < takes) {
                    at++;
                }
                free = at < flow.size() ? flow.get(at).left : 0;
            }
            if (at >= flow.size()) {
                break;
            }
            Gap g = flow.get(at);
            g.words.add(w);
            laid.places.put(w, new int[] {g.line, free, laid.lines.get(g.line).indexOf(g)});
            free += takes + 1;
        }
        for (int s = 0; s < sheet.figures.size(); s++) {
            int w = held.tie.get(s);
            laid.tiedLines.add(w == NONE || !laid.places.containsKey(w) ? NONE : laid.places.get(w)[0]);
        }
        return laid;
    }

    static Laid settle(Sheet sheet, Held held, int wide, int without) {
        Held h = held.copy();
        List<Integer> y = new ArrayList<>();
        boolean anyTied = false;
        for (int s = 0; s < sheet.figures.size(); s++) {
            if (s == without) {
                h.tie.set(s, NONE);
            }
            boolean tied = h.tie.get(s) != NONE;
            anyTied |= tied;
            y.add(tied || s == without ? null : h.y.get(s));
        }
        List<Laid> all = new ArrayList<>();
        all.add(pour(sheet, h, wide, y));
        if (!anyTied) {
            return all.get(0);
        }
        for (int k = 1; k <= 60; k++) {
            List<Integer> set = new ArrayList<>(y);
            for (int s = 0; s < sheet.figures.size(); s++) {
                if (h.tie.get(s) != NONE) {
                    int line = all.get(k - 1).tiedLines.get(s);
                    set.set(s, line == NONE ? null : (Integer) (h.y.get(s) + sheet.high * line));
                }
            }
            Laid laid = pour(sheet, h, wide, set);
            laid.round = k;
            laid.still = 2;
            all.add(laid);
            if (laid.tiedLines.equals(all.get(k - 1).tiedLines)) {
                laid.still = 0;
                return laid;
            }
            for (int j = 0; j < k - 1; j++) {
                if (laid.tiedLines.equals(all.get(j).tiedLines)) {
                    laid.still = 1;
                    laid.clash = clashing(all, h, j, k);
                    return laid;
                }
            }
        }
        return all.get(60);
    }

    private static int clashing(List<Laid> all, Held h, int back, int k) {
        int bits = 0;
        for (int s = 0; s < h.tie.size(); s++) {
            List<Integer> seen = new ArrayList<>();
            for (int r = back + 1; r <= k; r++) {
                seen.add(all.get(r).figureY.get(s));
            }
            if (h.tie.get(s) != NONE && seen.stream().distinct().count() > 1) {
                bits |= 1 << s;
            }
        }
        return bits;
    }

    // ---- what an object holds

    private final List<Integer> tape = new ArrayList<>();
    private int fault = 0;
    private int faultAt = NONE;
    private Sheet sheet = new Sheet();
    private Held held = new Held();
    private final ArrayDeque<Held> past = new ArrayDeque<>();
    private final Sheet[] imageSheet = new Sheet[2];
    private final Held[] imageHeld = new Held[2];
    private final long[][] trays = new long[4][];
    private final int[] sorts = new int[4];
    private int drawerKind;
    private int[][] drawer = null;

    private Laid laid() {
        return settle(sheet, held, sheet.wide, NONE);
    }

    private boolean noShape(int s) {
        return s < 0 || s >= sheet.figures.size();
    }

    private boolean noWord(int w) {
        return w < 0 || w >= sheet.words.size();
    }

    private boolean noLine(int line) {
        return line < 0 || line >= sheet.lines;
    }

    int feed(int a, int b, int c, int d, int e) {
        if (tape.size() > 880) {
            return -5;
        }
        for (int v : new int[] {a, b, c, d, e}) {
            tape.addAll(List.of(v >>> 24, v >>> 16 & 255, v >>> 8 & 255, v & 255));
        }
        return tape.size();
    }

    int page(int n) {
        if (n < 0 || n > tape.size()) {
            return -3;
        }
        StringBuilder text = new StringBuilder();
        tape.subList(0, n).forEach(b -> text.append((char) (int) b));
        tape.clear();
        Parser p = new Parser(text.toString());
        try {
            p.parse();
        } catch (Fault f) {
            fault = f.kind;
            faultAt = f.place;
            return -30 - fault;
        }
        fault = 0;
        faultAt = NONE;
        sheet = p.sheet;
        held = p.held;
        past.clear();
        return sheet.told;
    }

    int fault(int what) {
        return what == 0 ? fault : what == 1 ? faultAt : NONE;
    }

    int set(int what) {
        int[] all = {sheet.wide, sheet.lines, sheet.high, sheet.least};
        return what < 0 || what > 3 ? -2 : all[what];
    }

    int shape(int s, int what) {
        if (noShape(s) || what < 0 || what > 4) {
            return -2;
        }
        Integer y = laid().figureY.get(s);
        int[] all = {sheet.figures.get(s).kind, held.x.get(s), held.y.get(s), held.tie.get(s), y == null ? NONE : y};
        return all[what];
    }

    int word(int w, int what) {
        if (noWord(w) || what < 0 || what > 2) {
            return -2;
        }
        int[] all = {sheet.words.get(w).length(), wideOf(sheet, w, held.ink), held.hidden.contains(w) ? 1 : 0};
        return all[what];
    }

    int span(int s, int line, int what) {
        if (noShape(s) || noLine(line) || what < 0 || what > 1) {
            return -99000002;
        }
        Integer y = laid().figureY.get(s);
        int[] span = y == null ? null : spanOf(sheet, s, held.x.get(s), y, line, held.ink);
        return span == null ? -99000001 : span[what];
    }

    int slots(int line) {
        return noLine(line) ? -2 : laid().lines.get(line).size();
    }

    int slot(int line, int i, int what) {
        if (noLine(line) || what < 0 || what > 2) {
            return -2;
        }
        if (i < 0) {
            return -3;
        }
        List<Gap> gaps = laid().lines.get(line);
        if (i >= gaps.size()) {
            return NONE;
        }
        return new int[] {gaps.get(i).left, gaps.get(i).right, gaps.get(i).words.size()}[what];
    }

    int lies(int w, int what) {
        if (noWord(w) || what < 0 || what > 2) {
            return -2;
        }
        int[] place = laid().places.get(w);
        return place == null ? NONE : place[what];
    }

    private int doMove(Held h, int s, int axis, int by) {
        if (noShape(s) || axis < 0 || axis > 1 || Math.abs((long) by) > 100) {
            return 1;
        }
        List<Integer> row = axis == 0 ? h.x : h.y;
        int to = row.get(s) + by;
        if (to < 0 || to > 200 * (axis + 1)) {
            return 2;
        }
        row.set(s, to);
        return 0;
    }

    private int doTie(Held h, int s, int w) {
        if (noShape(s) || w < -1 || w > 29) {
            return 1;
        }
        h.tie.set(s, w);
        return 0;
    }

    private int doHide(Held h, int w) {
        if (noWord(w)) {
            return 1;
        }
        if (!h.hidden.remove(w)) {
            h.hidden.add(w);
        }
        return 0;
    }

    private int doInk(Held h, int n) {
        if (n < 0 || n > 9) {
            return 1;
        }
        h.ink = n;
        return 0;
    }

    private int deed(Held h, long v) {
        if (v >= 10 && v <= 19) {
            return doInk(h, (int) v - 10);
        }
        if (v >= 100 && v <= 129) {
            return doHide(h, (int) v - 100);
        }
        if (v >= 1000 && v <= 1599) {
            int w = (int) v % 100;
            if (w > 29 && w != 99) {
                return 1;
            }
            return doTie(h, (int) (v - 1000) / 100, w == 99 ? NONE : w);
        }
        if (v >= 10000 && v <= 15999) {
            return doMove(h, (int) (v - 10000) / 1000, 0, (int) (v - 10000) % 1000 - 100);
        }
        if (v >= 20000 && v <= 25999) {
            return doMove(h, (int) (v - 20000) / 1000, 1, (int) (v - 20000) % 1000 - 100);
        }
        return 1;
    }

    private void did(Held then) {
        past.addLast(held);
        if (past.size() > 10) {
            past.removeFirst();
        }
        held = then;
    }

    int move(int s, int axis, int by) {
        Held h = held.copy();
        int why = doMove(h, s, axis, by);
        if (why != 0) {
            return -10 - why;
        }
        did(h);
        return axis == 0 ? h.x.get(s) : h.y.get(s);
    }

    int tie(int s, int w) {
        Held h = held.copy();
        if (doTie(h, s, w) != 0) {
            return -11;
        }
        int before = held.tie.get(s);
        did(h);
        return before;
    }

    int hide(int w) {
        Held h = held.copy();
        if (doHide(h, w) != 0) {
            return -11;
        }
        did(h);
        return h.hidden.contains(w) ? 1 : 0;
    }

    int ink(int n) {
        Held h = held.copy();
        if (doInk(h, n) != 0) {
            return -11;
        }
        int before = held.ink;
        did(h);
        return before;
    }

    int undo(int n) {
        if (n < 1 || n > 10 || n > past.size()) {
            return -3;
        }
        for (int i = 0; i < n; i++) {
            held = past.removeLast();
        }
        return past.size();
    }

    int judge(int tray, int what) {
        if (tray < 0 || tray > 3 || what < 0 || what > 3) {
            return -2;
        }
        if (trays[tray] == null) {
            return -6;
        }
        Held h = held.copy();
        int place = NONE;
        int why = 0;
        for (int i = 0; i < trays[tray].length && why == 0; i++) {
            why = deed(h, trays[tray][i]);
            if (why != 0) {
                place = i;
            }
        }
        Laid then = settle(sheet, h, sheet.wide, NONE);
        return new int[] {place, why, then.places.size(), then.last()}[what];
    }

    int perform(int tray) {
        if (tray < 0 || tray > 3) {
            return -2;
        }
        if (trays[tray] == null) {
            return -6;
        }
        Held h = held.copy();
        int n = 0;
        while (n < trays[tray].length && deed(h, trays[tray][n]) == 0) {
            n++;
        }
        if (n > 0) {
            did(h);
        }
        return n;
    }

    private int seed;

    private int draw(int modulo) {
        seed = 1103515245 * seed + 12345;
        return (seed >>> 16) % modulo;
    }

    int day(int first, int times) {
        if (times < 1 || times > 40) {
            return -3;
        }
        seed = first;
        Held h = held.copy();
        int n = 0;
        for (int i = 0; i < times; i++) {
            int v;
            int kind = draw(5);
            if (kind == 0) {
                v = 10 + draw(10);
            } else if (kind == 1) {
                v = 100 + draw(30);
            } else if (kind == 2) {
                int s = draw(6);
                v = 1000 + 100 * s + draw(30);
            } else {
                int s = draw(6);
                v = (kind == 3 ? 10000 : 20000) + 1000 * s + draw(201);
            }
            if (deed(h, v) == 0) {
                n++;
            }
        }
        if (n > 0) {
            did(h);
        }
        return n;
    }

    int placed() {
        return laid().places.size();
    }

    int last() {
        return laid().last();
    }

    int inLine(int line) {
        if (noLine(line)) {
            return -2;
        }
        int bits = 0;
        for (Gap g : laid().lines.get(line)) {
            for (int w : g.words) {
                bits |= 1 << w;
            }
        }
        return bits;
    }

    int full(int line) {
        if (noLine(line)) {
            return -2;
        }
        int taken = 0;
        for (Gap g : laid().lines.get(line)) {
            for (int w : g.words) {
                taken += wideOf(sheet, w, held.ink);
            }
        }
        return taken * 1000 / sheet.wide;
    }

    private int leftOf(Gap g, List<Integer> words) {
        int left = g.right - g.left - words.size() + 1;
        for (int w : words) {
            left -= wideOf(sheet, w, held.ink);
        }
        return left;
    }

    int ragged() {
        Laid l = laid();
        int lastWord = l.places.keySet().stream().mapToInt(w -> w).max().orElse(NONE);
        int sum = 0;
        for (Gap g : l.gaps()) {
            if (!g.words.isEmpty() && !g.words.contains(lastWord)) {
                sum += leftOf(g, g.words) * leftOf(g, g.words);
            }
        }
        return sum;
    }

    /** The least raggedness of the words from one on in the slots from one on, and in how many ways. */
    private BigInteger[] best(List<Integer> words, List<Gap> gaps, int w, int g, Map<Integer, BigInteger[]> known) {
        if (w == words.size()) {
            return new BigInteger[] {BigInteger.ZERO, BigInteger.ONE};
        }
        if (g == gaps.size()) {
            return null;
        }
        int key = w * 1000 + g;
        if (known.containsKey(key)) {
            return known.get(key);
        }
        BigInteger[] all = best(words, gaps, w, g + 1, known);
        for (int end = w + 1; end <= words.size(); end++) {
            int left = leftOf(gaps.get(g), words.subList(w, end));
            if (left < 0) {
                break;
            }
            BigInteger[] rest = best(words, gaps, end, g + 1, known);
            if (rest == null) {
                continue;
            }
            BigInteger cost = rest[0].add(BigInteger.valueOf(end == words.size() ? 0 : left * left));
            int order = all == null ? -1 : cost.compareTo(all[0]);
            if (order < 0) {
                all = new BigInteger[] {cost, rest[1]};
            } else if (order == 0) {
                all = new BigInteger[] {cost, rest[1].add(all[1])};
            }
        }
        known.put(key, all);
        return all;
    }

    private BigInteger[] breaks() {
        Laid l = laid();
        List<Integer> words = new ArrayList<>(new TreeSet<>(l.places.keySet()));
        return words.isEmpty() ? null : best(words, l.gaps(), 0, 0, new HashMap<>());
    }

    int tight() {
        BigInteger[] b = breaks();
        return b == null ? NONE : b[0].intValueExact();
    }

    long tightWays() {
        BigInteger[] b = breaks();
        return b == null ? NONE : b[1].min(BigInteger.TEN.pow(15)).longValueExact();
    }

    int rounds() {
        return laid().round;
    }

    int still() {
        return laid().still;
    }

    int clash() {
        return laid().clash;
    }

    int leastWide() {
        for (int wide = 10; wide <= 200; wide++) {
            if (settle(sheet, held, wide, NONE).places.size() == sheet.words.size() - held.hidden.size()) {
                return wide;
            }
        }
        return NONE;
    }

    int bestX(int s) {
        if (noShape(s)) {
            return -2;
        }
        int best = NONE;
        Laid top = null;
        for (int x = 0; x <= 200; x++) {
            Held h = held.copy();
            h.x.set(s, x);
            Laid l = settle(sheet, h, sheet.wide, NONE);
            if (top == null || better(l, top)) {
                top = l;
                best = x;
            }
        }
        return best;
    }

    private static boolean better(Laid a, Laid b) {
        int order = Integer.compare(b.places.size(), a.places.size());
        return order < 0 || order == 0 && a.last() < b.last();
    }

    int costs() {
        int best = NONE;
        Laid top = null;
        for (int s = 0; s < sheet.figures.size(); s++) {
            Laid l = settle(sheet, held, sheet.wide, s);
            if (top == null || better(l, top)) {
                top = l;
                best = s;
            }
        }
        return best;
    }

    int pushes(int s) {
        if (noShape(s)) {
            return -2;
        }
        Laid a = laid();
        Laid b = settle(sheet, held, sheet.wide, s);
        int bits = 0;
        for (int w = 0; w < sheet.words.size(); w++) {
            int[] p = a.places.get(w);
            int[] q = b.places.get(w);
            boolean same = p == null || q == null ? p == q : p[0] == q[0] && p[1] == q[1];
            bits |= same ? 0 : 1 << w;
        }
        return bits;
    }

    int inks(int tray) {
        if (tray < 0 || tray > 3) {
            return -2;
        }
        if (trays[tray] == null) {
            return -6;
        }
        if (trays[tray].length < 1 || trays[tray].length > 8) {
            return -4;
        }
        int bits = 1023;
        for (long v : trays[tray]) {
            if (v < 0 || v / 1000 >= sheet.words.size() || v % 1000 < 1 || v % 1000 > 200) {
                return -3;
            }
            for (int ink = 0; ink < 10; ink++) {
                if (wideOf(sheet, (int) (v / 1000), ink) != v % 1000) {
                    bits &= ~(1 << ink);
                }
            }
        }
        return bits;
    }

    int measure(int tray) {
        int seen = inks(tray);
        if (seen <= 0) {
            return seen == 0 ? NONE : seen;
        }
        int best = NONE;
        long least = 99;
        for (int w = 0; w < sheet.words.size(); w++) {
            Map<Integer, Long> many = new HashMap<>();
            for (int ink = 0; ink < 10; ink++) {
                if ((seen >> ink & 1) == 1) {
                    many.merge(wideOf(sheet, w, ink), 1L, Long::sum);
                }
            }
            long most = many.values().stream().mapToLong(v -> v).max().orElse(0);
            if (most < least) {
                least = most;
                best = w;
            }
        }
        return best;
    }

    private int lots(int n, int what, boolean lines) {
        if (what < 0 || what > 1) {
            return -2;
        }
        if (n < 0 || n > 2) {
            return -3;
        }
        int all = (int) Math.pow(10, n);
        int sum = 0;
        for (int draw = 0; draw < all; draw++) {
            Held h = held.copy();
            int rest = draw;
            for (int i = 0; i < n; i++) {
                if (rest % 10 < sheet.words.size()) {
                    h.hidden.add(rest % 10);
                }
                rest /= 10;
            }
            Laid l = settle(sheet, h, sheet.wide, NONE);
            sum += lines ? l.last() + 1 : l.places.size() == sheet.words.size() - h.hidden.size() ? 1 : 0;
        }
        int common = BigInteger.valueOf(sum).gcd(BigInteger.valueOf(all)).intValue();
        return (what == 0 ? sum : all) / common;
    }

    int chance(int n, int what) {
        return lots(n, what, false);
    }

    int mean(int n, int what) {
        return lots(n, what, true);
    }

    int drawer(int kind, int n) {
        if (kind < 0 || kind > 2) {
            return -2;
        }
        if (n < 0 || n > 9) {
            return -3;
        }
        drawerKind = kind;
        drawer = new int[n][];
        return 0;
    }

    int keep(int place, int s) {
        if (noShape(s)) {
            return -2;
        }
        if (drawer == null) {
            return -6;
        }
        if (place < 0 || place >= drawer.length) {
            return -7;
        }
        if (sheet.figures.get(s).kind != drawerKind) {
            return -8;
        }
        drawer[place] = new int[] {held.x.get(s), held.y.get(s)};
        return 0;
    }

    int kept(int place, int what) {
        if (what < 0 || what > 1) {
            return -2;
        }
        if (drawer == null) {
            return -6;
        }
        if (place < 0 || place >= drawer.length) {
            return -7;
        }
        return drawer[place] == null ? -5 : drawer[place][what];
    }

    int numbers(int tray, int sort, int n) {
        if (tray < 0 || tray > 3 || sort < 0 || sort > 3) {
            return -2;
        }
        if (n < 0 || n > 40) {
            return -3;
        }
        trays[tray] = new long[n];
        sorts[tray] = sort;
        return 0;
    }

    long write(int tray, int i, long v) {
        if (tray < 0 || tray > 3) {
            return -2;
        }
        if (trays[tray] == null) {
            return -6;
        }
        if (i < 0 || i >= trays[tray].length) {
            return -7;
        }
        long[] cut = {(byte) v, (short) v, (int) v, v};
        trays[tray][i] = cut[sorts[tray]];
        return trays[tray][i];
    }

    int lists(int tray) {
        if (tray < 0 || tray > 3) {
            return -2;
        }
        if (trays[tray] == null) {
            return -6;
        }
        Laid l = laid();
        int n = Math.min(trays[tray].length, sheet.words.size());
        for (int w = 0; w < n; w++) {
            trays[tray][w] = l.places.containsKey(w) ? l.places.get(w)[0] : NONE;
        }
        return n;
    }

    int image(int i) {
        if (i < 0 || i > 1) {
            return -2;
        }
        imageSheet[i] = sheet;
        imageHeld[i] = held.copy();
        return 0;
    }

    int restore(int i) {
        if (i < 0 || i > 1) {
            return -2;
        }
        if (imageSheet[i] == null) {
            return -5;
        }
        sheet = imageSheet[i];
        held = imageHeld[i].copy();
        past.clear();
        return 0;
    }

    int count(int what) {
        if (what < 0 || what > 8) {
            return NONE;
        }
        int hidden = 0;
        for (int w : held.hidden) {
            hidden |= 1 << w;
        }
        int tied = 0;
        for (int s = 0; s < held.tie.size(); s++) {
            tied |= held.tie.get(s) == NONE ? 0 : 1 << s;
        }
        int[] all = {sheet.figures.size(), sheet.words.size(), held.ink, hidden, tied, laid().gaps().size(),
            past.size(), tape.size(), sheet.told};
        return all[what];
    }
}
