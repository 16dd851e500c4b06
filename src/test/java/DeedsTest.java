import java.util.ArrayList;
import java.util.List;

/** Promises 12 to 19: moving, tying, hiding, the ink, undoing, deeds in trays, days. */
public final class DeedsTest {
    private static final Check CHECK = new Check();
    private static final String PAGE = "page wide 20 lines 4 high 5 least 2 ink 3;box 5 5 3 5;circle 200 400 9;words aaaa bbbb cccc dddd eeee;";

    public static void main(String[] args) {
        move();
        tie();
        hideAndInk();
        undo();
        eldestAreForgotten();
        judge();
        why();
        farDeeds();
        perform();
        days();
        CHECK.end();
    }

    private static void due(String what, long got, long want) {
        CHECK.due(what, got, want);
    }

    private static void move() {
        ShapePour x = Check.on(PAGE);
        CHECK.row("12: as it is then", new long[] {x.move(0, 0, 2), x.move(0, 1, -5), x.move(0, 0, 0), x.move(0, 0, 100), x.move(0, 0, 93)},
            7, 0, 7, 107, 200);
        CHECK.row("12: why 1", new long[] {x.move(2, 0, 0), x.move(-1, 0, 0), x.move(0, 2, 0), x.move(0, -1, 0), x.move(0, 0, 101),
            x.move(0, 0, -101), x.move(0, 0, Integer.MIN_VALUE), x.move(1, 1, 101), x.move(7, 0, 1)}, -11, -11, -11, -11, -11, -11, -11, -11, -11);
        CHECK.row("12: why 2", new long[] {x.move(0, 0, 1), x.move(0, 1, -1), x.move(1, 0, 1), x.move(1, 1, 1)}, -12, -12, -12, -12);
        CHECK.row("12: to the bounds", new long[] {x.move(0, 0, -100), x.move(0, 0, -100), x.move(1, 1, -100), x.move(1, 1, 100)}, 100, 0, 300, 400);
        CHECK.row("6: told and moved", new long[] {x.shape(0, 1), x.shape(0, 2), x.shape(1, 1), x.shape(1, 2)}, 0, 0, 200, 400);
        due("46: refused ones aren't undone", x.count(6), 9);
    }

    private static void tie() {
        ShapePour x = Check.on(PAGE);
        CHECK.row("13: it was tied to", new long[] {x.tie(0, 2), x.tie(0, 29), x.tie(0, 0), x.tie(0, -1), x.tie(0, -1)}, -1, 2, 29, 0, -1);
        CHECK.row("13: refused", new long[] {x.tie(2, 0), x.tie(-1, 0), x.tie(0, 30), x.tie(0, -2)}, -11, -11, -11, -11);
        x.tie(1, 4);
        CHECK.row("46: tied", new long[] {x.count(4), x.shape(0, 3), x.shape(1, 3)}, 2, -1, 4);
    }

    private static void hideAndInk() {
        ShapePour x = Check.on(PAGE);
        CHECK.row("14: hidden, shown", new long[] {x.hide(0), x.hide(4), x.hide(0)}, 1, 1, 0);
        CHECK.row("14: refused", new long[] {x.hide(5), x.hide(-1), x.hide(29), x.hide(32)}, -11, -11, -11, -11);
        due("46: hidden", x.count(3), 16);
        CHECK.row("15: what it was", new long[] {x.ink(0), x.ink(9), x.ink(9)}, 3, 0, 9);
        CHECK.row("15: refused", new long[] {x.ink(10), x.ink(-1)}, -11, -11);
        due("46: ink", x.count(2), 9);
    }

    private static void undo() {
        ShapePour x = Check.on(PAGE);
        CHECK.row("16: nothing yet", new long[] {x.undo(1), x.undo(0), x.undo(-1)}, -3, -3, -3);
        x.move(0, 0, 1);
        x.move(0, 1, 2);
        x.tie(1, 3);
        x.hide(2);
        x.ink(7);
        x.ink(12);
        CHECK.row("16: more than can be", new long[] {x.undo(6), x.undo(11), x.undo(0)}, -3, -3, -3);
        due("16: the ink", x.undo(1), 4);
        CHECK.row("16: back", new long[] {x.count(2), x.count(3)}, 3, 4);
        due("16: two", x.undo(2), 2);
        CHECK.row("16: back", new long[] {x.count(3), x.shape(1, 3), x.shape(0, 2)}, 0, -1, 7);
        due("16: two more", x.undo(2), 0);
        CHECK.row("16: back", new long[] {x.shape(0, 1), x.shape(0, 2), x.lies(2, 0)}, 5, 5, 0);
        // What does nothing new is a deed all the same.
        x.ink(3);
        x.tie(0, -1);
        due("46: calls that did some", x.count(6), 2);
    }

    private static void eldestAreForgotten() {
        ShapePour x = Check.on(PAGE);
        for (int i = 0; i < 13; i++) {
            x.ink(i % 10);
        }
        due("16: ten at most", x.count(6), 10);
        due("16: eleven", x.undo(11), -3);
        due("16: three", x.undo(3), 7);
        due("16: ink of the tenth", x.count(2), 9);
        x.ink(5);
        due("16: eight", x.undo(8), 0);
        due("16: the eldest that is kept", x.count(2), 2);
        due("16: none", x.undo(1), -3);
    }

    private static void judge() {
        ShapePour x = Check.on(PAGE);
        CHECK.row("17: refused", new long[] {x.judge(-1, 0), x.judge(4, 0), x.judge(0, 4), x.judge(0, -1), x.judge(0, 0)}, -2, -2, -2, -2, -6);
        Check.tray(x, 0);
        CHECK.row("17: nothing to do", new long[] {x.judge(0, 0), x.judge(0, 1), x.judge(0, 2), x.judge(0, 3)}, -1, 0, 5, 1);
        // Five words of 4: four in line 0, which the box at Y 5 leaves free, the fifth in line 1.
        Check.tray(x, 0, 100, 101, 1000 + 300, 103, 104);
        CHECK.row("17: till one can't be", new long[] {x.judge(0, 0), x.judge(0, 1), x.judge(0, 2), x.judge(0, 3)}, 2, 1, 3, 0);
        Check.tray(x, 0, 100, 101, 102, 103, 104);
        CHECK.row("17: all hidden", new long[] {x.judge(0, 0), x.judge(0, 1), x.judge(0, 2), x.judge(0, 3)}, -1, 0, 0, -1);
        Check.tray(x, 0, 10000 + 94);
        CHECK.row("17: out of bounds", new long[] {x.judge(0, 0), x.judge(0, 1)}, 0, 2);
        CHECK.row("17: nothing is done", new long[] {x.count(3), x.count(6), x.placed()}, 0, 0, 5);
    }

    private static void why() {
        ShapePour x = Check.on(PAGE);
        long[] not = {0, 9, 20, 99, 105, 130, 999, 1200, 1030, 1098, 1600, 1599, 9999, 12000, 10201, 10999, 16000, 19999, 20301, 22100, 25999, 26000,
            -1, -100, Long.MIN_VALUE, Long.MAX_VALUE, (1L << 32) + 10};
        for (long v : not) {
            Check.tray(x, 1, v);
            due("17: why " + v, x.judge(1, 1), 1);
            due("17: where " + v, x.judge(1, 0), 0);
        }
        long[] bounds = {10000, 10000 + 94, 11000 + 101, 20000 + 94, 21000 + 101, 21000 + 200};
        for (long v : bounds) {
            Check.tray(x, 1, v);
            due("17: why " + v, x.judge(1, 1), 2);
        }
        long[] can = {10, 19, 100, 104, 1000, 1029, 1099, 1100, 1199, 10000 + 95, 10200, 11000 + 100, 11000, 20000 + 95, 20200, 21000};
        for (long v : can) {
            Check.tray(x, 1, v);
            due("17: can be " + v, x.judge(1, 1), 0);
            due("17: where " + v, x.judge(1, 0), -1);
        }
    }

    private static void farDeeds() {
        ShapePour x = Check.on("page wide 20 lines 4 high 5 least 2 ink 3;" + "box 100 100 1 1;".repeat(6) + "words " + "a ".repeat(30) + ";");
        Check.tray(x, 0, 129, 100, 1529, 1599, 10000, 20000, 15000 + 200, 25000 + 200);
        due("18: the ends", x.perform(0), 8);
        CHECK.row("18: the ends", new long[] {x.count(3), x.shape(5, 3), x.shape(0, 1), x.shape(0, 2), x.shape(5, 1), x.shape(5, 2)},
            (1 << 29) + 1, -1, 0, 0, 200, 200);
    }

    private static void perform() {
        ShapePour x = Check.on(PAGE);
        CHECK.row("18: refused", new long[] {x.perform(-1), x.perform(4), x.perform(3)}, -2, -2, -6);
        Check.tray(x, 3, 17, 104, 1129, 11000, 20000 + 110, 99, 12);
        due("18: how many", x.perform(3), 5);
        CHECK.row("18: done", new long[] {x.count(2), x.count(3), x.shape(1, 3), x.shape(1, 1), x.shape(0, 2), x.count(6)}, 7, 16, 29, 100, 15, 1);
        due("18: again", x.perform(3), 5);
        CHECK.row("18: shown again", new long[] {x.count(3), x.shape(1, 1), x.shape(0, 2)}, 0, 0, 25);
        due("18: till one can't be", x.perform(3), 3);
        due("18: undone as a whole", x.undo(2), 1);
        CHECK.row("18: as behind the first", new long[] {x.count(3), x.shape(1, 1), x.shape(0, 2), x.count(2)}, 16, 100, 15, 7);
        Check.tray(x, 0, 99);
        due("18: none", x.perform(0), 0);
        Check.tray(x, 0);
        due("18: nothing to do", x.perform(0), 0);
        due("46: none of these did some", x.count(6), 1);
        Check.tray(x, 0, 1199);
        x.perform(0);
        due("18: tied to none", x.shape(1, 3), -1);
    }

    private static int seed;

    private static int draw() {
        seed = 1103515245 * seed + 12345;
        return seed >>> 16;
    }

    private static List<Integer> deeds(int first, int times) {
        seed = first;
        List<Integer> all = new ArrayList<>();
        for (int i = 0; i < times; i++) {
            int kind = draw() % 5;
            int a = draw();
            int b = kind < 2 ? 0 : draw();
            all.add(kind == 0 ? 10 + a % 10 : kind == 1 ? 100 + a % 30 : kind == 2 ? 1000 + 100 * (a % 6) + b % 30
                : 10000 * (kind - 2) + 1000 * (a % 6) + b % 201);
        }
        return all;
    }

    private static void days() {
        ShapePour refused = Check.on(PAGE);
        CHECK.row("19: refused", new long[] {refused.day(1, 0), refused.day(1, 41), refused.day(1, -1)}, -3, -3, -3);
        for (int first : new int[] {0, 1, -1, 77, Integer.MIN_VALUE, Integer.MAX_VALUE, 123456789}) {
            for (int times : new int[] {1, 2, 7, 40}) {
                ShapePour x = Check.on(PAGE);
                ShapePour y = Check.on(PAGE);
                int could = 0;
                for (int v : deeds(first, times)) {
                    Check.tray(y, 0, v);
                    could += y.perform(0);
                }
                String what = "19: day " + first + " " + times;
                due(what, x.day(first, times), could);
                for (int k = 0; k < 6; k++) {
                    due(what + ", count " + k, x.count(k), y.count(k));
                }
                for (int s = 0; s < 2; s++) {
                    for (int k = 1; k < 5; k++) {
                        due(what + ", shape", x.shape(s, k), y.shape(s, k));
                    }
                }
                due(what + ", can be undone", x.count(6), could > 0 ? 1 : 0);
                due(what + ", undone", x.undo(1), could > 0 ? 0 : -3);
                CHECK.row(what + ", as it was", new long[] {x.count(2), x.count(3), x.count(4), x.shape(0, 1), x.shape(1, 2)}, 3, 0, 0, 5, 400);
            }
        }
    }
}
