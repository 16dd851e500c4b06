import java.util.ArrayList;
import java.util.List;
import java.util.function.ToLongFunction;

/**
 * "Refused calls answer by a code and change nothing": each kind of refused call on an object that holds
 * all there can be, beside one that was not called; and calls that only tell, which change nothing either.
 */
public final class RefusedTest {
    private static final Check CHECK = new Check();
    private static final int MOST = Integer.MAX_VALUE;
    private static final int LEAST = Integer.MIN_VALUE;
    private static final String PAGE = "page wide 30 lines 3 high 4 least 2 ink 3;box 3 2 4 5;circle 20 6 3;tie 1 2;"
        + "words abc defgh ij klmno;wide:size+if ink=4 then word else 0 end;gap:if line=1 then 1 else 0 end;";
    private static final String OTHER = "page wide 25 lines 2 high 4 least 2 ink 6;wedge 9 1 4 6;words abc de;";

    private record Call(String told, long code, ToLongFunction<ShapePour> made) { }

    private static final List<Call> CALLS = new ArrayList<>();

    public static void main(String[] args) {
        refused();
        telling();
        long[] due = all(held());
        for (Call call : CALLS) {
            ShapePour x = held();
            long answer = call.made.applyAsLong(x);
            if (call.code != 0) {
                CHECK.due(call.told, answer, call.code);
            }
            CHECK.row("behind " + call.told + " all stays", all(x), due);
        }
        onANewObject();
        CHECK.end();
    }

    private static void no(long code, String told, ToLongFunction<ShapePour> made) {
        CALLS.add(new Call(told, code, made));
    }

    /** Shapes, words, ties, hidden words, an ink, calls to undo, images, a drawer, trays, a tape, a fault. */
    private static ShapePour held() {
        ShapePour x = new ShapePour();
        Texts.page(x, OTHER);
        x.ink(2);
        x.image(1);
        Texts.page(x, PAGE);
        x.move(0, 0, 1);
        x.hide(3);
        x.image(0);
        x.tie(0, 0);
        x.ink(5);
        x.drawer(0, 3);
        x.keep(1, 0);
        Check.tray(x, 0, 14, 101, 1001, 10099, 20101);
        Check.tray(x, 1, 3, 1005);
        x.numbers(2, 0, 0);
        Texts.page(x, "page wide #");
        x.feed('p' << 24 | 'a' << 16 | 'g' << 8 | 'e', 0x20202020, 0x20202020, 0x20202020, 0x20202039);
        return x;
    }

    private static void refused() {
        for (int n : new int[] {-1, 21, 900, LEAST, MOST}) {
            no(-3, "page(" + n + ")", x -> x.page(n));
        }
        for (int s : new int[] {-1, 2, 5, 6, LEAST, MOST}) {
            no(-2, "shape " + s, x -> x.shape(s, 0));
            no(-99000002, "span of " + s, x -> x.span(s, 0, 0));
            no(-11, "move " + s, x -> x.move(s, 0, 1));
            no(-11, "tie " + s, x -> x.tie(s, 1));
            no(-2, "bestX " + s, x -> x.bestX(s));
            no(-2, "pushes " + s, x -> x.pushes(s));
            no(-2, "keep " + s, x -> x.keep(0, s));
        }
        for (int w : new int[] {-1, 4, 29, 30, 32, LEAST, MOST}) {
            no(-2, "word " + w, x -> x.word(w, 0));
            no(-2, "lies " + w, x -> x.lies(w, 0));
            no(-11, "hide " + w, x -> x.hide(w));
        }
        for (int w : new int[] {-2, 30, 99, LEAST, MOST}) {
            no(-11, "tie to " + w, x -> x.tie(0, w));
        }
        for (int line : new int[] {-1, 3, 19, 20, LEAST, MOST}) {
            no(-99000002, "span in " + line, x -> x.span(0, line, 0));
            no(-2, "slots " + line, x -> x.slots(line));
            no(-2, "slot in " + line, x -> x.slot(line, 0, 0));
            no(-2, "inLine " + line, x -> x.inLine(line));
            no(-2, "full " + line, x -> x.full(line));
        }
        for (int what : new int[] {-1, 5, 9, LEAST, MOST}) {
            no(-2, "set " + what, x -> x.set(what));
            no(-2, "shape, " + what, x -> x.shape(0, what));
            no(-2, "word, " + what, x -> x.word(0, what));
            no(-99000002, "span, " + what, x -> x.span(0, 0, what));
            no(-2, "slot, " + what, x -> x.slot(0, 0, what));
            no(-2, "lies, " + what, x -> x.lies(0, what));
            no(-2, "judge, " + what, x -> x.judge(0, what));
            no(-2, "chance, " + what, x -> x.chance(1, what));
            no(-2, "mean, " + what, x -> x.mean(1, what));
            no(-2, "kept, " + what, x -> x.kept(1, what));
            no(-1, "fault, " + what, x -> x.fault(what));
            no(-11, "axis " + what, x -> x.move(0, what, 1));
        }
        refusedNumbers();
        refusedTrays();
    }

    private static void refusedNumbers() {
        for (int i : new int[] {-1, LEAST}) {
            no(-3, "slot " + i, x -> x.slot(0, i, 0));
        }
        for (int by : new int[] {-101, 101, LEAST, MOST}) {
            no(-11, "move by " + by, x -> x.move(0, 0, by));
        }
        no(-12, "move below 0", x -> x.move(0, 0, -5));
        no(-12, "move Y below 0", x -> x.move(0, 1, -3));
        for (int n : new int[] {-1, 10, LEAST, MOST}) {
            no(-11, "ink " + n, x -> x.ink(n));
        }
        for (int n : new int[] {0, -1, 5, 11, LEAST, MOST}) {
            no(-3, "undo " + n, x -> x.undo(n));
        }
        for (int times : new int[] {0, -1, 41, LEAST, MOST}) {
            no(-3, "day of " + times, x -> x.day(1, times));
        }
        for (int n : new int[] {-1, 3, LEAST, MOST}) {
            no(-3, "chance " + n, x -> x.chance(n, 0));
            no(-3, "mean " + n, x -> x.mean(n, 0));
            no(-2, "image " + n, x -> x.image(n));
            no(-2, "restore " + n, x -> x.restore(n));
            no(-2, "drawer for " + n, x -> x.drawer(n, 2));
            no(-7, "keep in " + n, x -> x.keep(n, 0));
            no(-7, "kept " + n, x -> x.kept(n, 0));
        }
        no(-8, "keep of another kind", x -> x.keep(0, 1));
        no(-5, "kept of an empty place", x -> x.kept(0, 0));
        for (int n : new int[] {-1, 10, LEAST, MOST}) {
            no(-3, "drawer of " + n, x -> x.drawer(1, n));
        }
        for (int what : new int[] {-1, 9, LEAST, MOST}) {
            no(-1, "count " + what, x -> x.count(what));
        }
    }

    private static void refusedTrays() {
        for (int tray : new int[] {-1, 4, LEAST, MOST, 3}) {
            int code = tray == 3 ? -6 : -2;
            no(code, "judge tray " + tray, x -> x.judge(tray, 2));
            no(code, "perform tray " + tray, x -> x.perform(tray));
            no(code, "inks of tray " + tray, x -> x.inks(tray));
            no(code, "measure by tray " + tray, x -> x.measure(tray));
            no(code, "lists into tray " + tray, x -> x.lists(tray));
            no(code, "write into tray " + tray, x -> x.write(tray, 0, 11));
            if (tray != 3) {
                no(-2, "numbers of tray " + tray, x -> x.numbers(tray, 0, 1));
            }
        }
        for (int sort : new int[] {-1, 4, LEAST, MOST}) {
            no(-2, "numbers of sort " + sort, x -> x.numbers(0, sort, 1));
        }
        for (int n : new int[] {-1, 41, LEAST, MOST}) {
            no(-3, n + " numbers", x -> x.numbers(0, 3, n));
            no(-3, n + " numbers in a tray that is missing", x -> x.numbers(3, 3, n));
        }
        for (int i : new int[] {-1, 5, 40, LEAST, MOST}) {
            no(-7, "write at " + i, x -> x.write(0, i, 11));
        }
        no(-7, "write into a tray without places", x -> x.write(2, 0, 11));
        no(-4, "inks of no numbers", x -> x.inks(2));
        no(-4, "measure by no numbers", x -> x.measure(2));
        no(-3, "inks of a word that isn't", x -> x.inks(0));
        no(-3, "measure by a word that isn't", x -> x.measure(0));
        no(0, "lists into a tray without places", x -> x.lists(2));
        no(0, "perform of a tray without deeds", x -> x.perform(2));
    }

    /** Calls that only tell. */
    private static void telling() {
        for (int i = 0; i < 4; i++) {
            int what = i;
            no(0, "judge " + what, x -> x.judge(0, what));
        }
        no(0, "leastWide", ShapePour::leastWide);
        no(0, "bestX", x -> x.bestX(0));
        no(0, "bestX of a tied one", x -> x.bestX(1));
        no(0, "costs", ShapePour::costs);
        no(0, "pushes", x -> x.pushes(0));
        no(0, "inks", x -> x.inks(1));
        no(0, "measure", x -> x.measure(1));
        for (int i = 0; i < 3; i++) {
            int n = i;
            no(0, "chance " + n, x -> x.chance(n, 0));
            no(0, "mean " + n, x -> x.mean(n, 1));
        }
        no(0, "tight", ShapePour::tight);
        no(0, "tightWays", ShapePour::tightWays);
        no(0, "ragged", ShapePour::ragged);
        no(0, "clash", ShapePour::clash);
        no(0, "keep of what is kept already", x -> x.keep(1, 0));
    }

    /** All that can be told of an object: as it is, then undone call by call, then by its images, its tape. */
    private static long[] all(ShapePour x) {
        List<Long> told = new ArrayList<>();
        add(told, x.fault(0), x.fault(1), x.placed(), x.last(), x.ragged(), x.tight(), x.tightWays(), x.rounds(), x.still(), x.clash(), x.leastWide(), x.bestX(0),
            x.costs(), x.pushes(0), x.pushes(1), x.chance(2, 0), x.chance(2, 1), x.mean(2, 0), x.mean(2, 1));
        for (int line = 0; line < 3; line++) {
            add(told, x.slots(line), x.inLine(line), x.full(line));
            for (int i = 0; i < 3; i++) {
                add(told, x.slot(line, i, 0), x.slot(line, i, 1), x.slot(line, i, 2));
            }
            for (int s = 0; s < 2; s++) {
                add(told, x.span(s, line, 0), x.span(s, line, 1));
            }
        }
        for (int w = 0; w < 4; w++) {
            add(told, x.word(w, 0), x.word(w, 1), x.word(w, 2), x.lies(w, 0), x.lies(w, 1), x.lies(w, 2));
        }
        for (int place = 0; place < 4; place++) {
            add(told, x.kept(place, 0), x.kept(place, 1));
        }
        add(told, x.inks(0), x.inks(1), x.measure(1), x.inks(2), x.inks(3), x.judge(0, 0), x.judge(0, 1), x.judge(0, 2), x.judge(0, 3), x.judge(1, 0));
        small(told, x);
        for (int i = 0; i < 5; i++) {
            add(told, x.undo(1));
            small(told, x);
        }
        add(told, x.perform(0), x.write(0, 5, 10), x.write(1, 2, 10), x.keep(2, 1));
        small(told, x);
        for (int i = 0; i < 2; i++) {
            add(told, x.restore(i));
            small(told, x);
        }
        add(told, x.count(7), x.page(20), x.fault(0), x.fault(1));
        return told.stream().mapToLong(v -> v).toArray();
    }

    private static void small(List<Long> told, ShapePour x) {
        for (int what = 0; what < 9; what++) {
            add(told, x.count(what));
        }
        add(told, x.set(0), x.set(1), x.set(2), x.set(3), x.placed(), x.last(), x.word(0, 1), x.word(0, 2));
        for (int s = 0; s < 2; s++) {
            add(told, x.shape(s, 0), x.shape(s, 1), x.shape(s, 2), x.shape(s, 3), x.shape(s, 4));
        }
    }

    private static void add(List<Long> told, long... some) {
        for (long v : some) {
            told.add(v);
        }
    }

    /** None of the calls that an object without a page refuses makes anything on it. */
    private static void onANewObject() {
        ShapePour x = new ShapePour();
        long[] got = {x.page(1), x.shape(0, 0), x.word(0, 0), x.span(0, 0, 0), x.slots(10), x.slot(0, -1, 0), x.lies(0, 0), x.move(0, 0, 0), x.tie(0, -1), x.hide(0),
            x.ink(10), x.undo(1), x.judge(0, 0), x.perform(0), x.day(0, 0), x.inLine(10), x.full(-1), x.bestX(0), x.pushes(0), x.inks(0), x.measure(0), x.chance(3, 0),
            x.mean(0, 2), x.drawer(0, 10), x.keep(0, 0), x.kept(0, 0), x.numbers(0, 0, 41), x.write(0, 0, 0), x.lists(0), x.image(2), x.restore(0), x.set(4)};
        CHECK.row("a new object refuses", got, -3, -2, -2, -99000002, -2, -3, -2, -11, -11, -11, -11, -3, -6, -6, -3, -2, -2, -2, -2, -6, -6, -3, -2, -3, -2, -6, -3, -6,
            -6, -2, -5, -2);
        long[] none = {x.count(0), x.count(1), x.count(2), x.count(3), x.count(4), x.count(5), x.count(6), x.count(7), x.count(8), x.set(0), x.set(1), x.set(2), x.set(3),
            x.fault(0), x.fault(1), x.placed(), x.last(), x.costs(), x.tight(), x.tightWays(), x.leastWide()};
        CHECK.row("and is as it was", none, 0, 0, 0, 0, 0, 10, 0, 0, 0, 40, 10, 5, 4, 0, -1, 0, -1, -1, -1, -1, 10);
    }
}
