/** Promises 34 to 46: what is seen, chances, the drawer, trays, images, counts. */
public final class HoldingTest {
    private static final Check CHECK = new Check();

    public static void main(String[] args) {
        inks();
        refusedInks();
        measure();
        chances();
        chancesOfHidden();
        drawer();
        trays();
        lists();
        images();
        imagesOfPages();
        counts();
        CHECK.end();
    }

    private static void due(String what, long got, long want) {
        CHECK.due(what, got, want);
    }

    private static final String LAWFUL = "page wide 40 lines 4 high 5 least 2 ink 3;words a bb ccc dddd;"
        + "wide : if word = 0 then 5 else if word = 1 then ink else if word = 2 then ink * 2 + 1 else if ink > 6 then 9 else 8 end end end end;";

    private static void inks() {
        ShapePour x = Check.on(LAWFUL);
        Check.tray(x, 0, 5);
        due("34: always so", x.inks(0), 1023);
        Check.tray(x, 0, 6);
        due("34: never so", x.inks(0), 0);
        Check.tray(x, 0, 1001);
        due("34: 1 at least", x.inks(0), 3);
        Check.tray(x, 0, 2019);
        due("34: ink 9", x.inks(0), 512);
        Check.tray(x, 0, 3008, 5);
        due("34: inks 0 to 6", x.inks(0), 127);
        Check.tray(x, 0, 3008, 1006, 5, 5, 5, 5, 5, 5);
        due("34: eight", x.inks(0), 64);
        Check.tray(x, 0, 3009, 1006);
        due("34: both can't be", x.inks(0), 0);
        x.hide(1);
        Check.tray(x, 0, 1004);
        due("34: of a hidden one too", x.inks(0), 16);
        due("34: the ink stays", x.count(2), 3);
    }

    private static void refusedInks() {
        ShapePour x = Check.on(LAWFUL);
        CHECK.row("34: no tray", new long[] {x.inks(-1), x.inks(4), x.inks(0), x.measure(-1), x.measure(4), x.measure(0)}, -2, -2, -6, -2, -2, -6);
        Check.tray(x, 0);
        CHECK.row("34: none", new long[] {x.inks(0), x.measure(0)}, -4, -4);
        Check.tray(x, 0, 5, 5, 5, 5, 5, 5, 5, 5, -1);
        CHECK.row("34: nine", new long[] {x.inks(0), x.measure(0)}, -4, -4);
        for (long v : new long[] {0, -5, 201, 999, 1000, 1201, 3000, 3201, 4005, 4294967301L, Long.MAX_VALUE, Long.MIN_VALUE}) {
            Check.tray(x, 0, 6, v);
            CHECK.row("34: can't be " + v, new long[] {x.inks(0), x.measure(0)}, -3, -3);
        }
        Check.tray(x, 0, 3200);
        due("34: 200 can be", x.inks(0), 0);
    }

    private static void measure() {
        ShapePour x = Check.on(LAWFUL);
        Check.tray(x, 0, 5);
        // Word 2 is never as wide by two inks.
        due("35: all apart", x.measure(0), 2);
        Check.tray(x, 0, 3009);
        // Of inks 7 to 9 word 1 is as good, and the first.
        due("35: the first of like ones", x.measure(0), 1);
        Check.tray(x, 0, 1001);
        due("35: inks 0 and 1", x.measure(0), 2);
        Check.tray(x, 0, 2019);
        due("35: one ink", x.measure(0), 0);
        Check.tray(x, 0, 6);
        due("35: there are none", x.measure(0), -1);
        ShapePour y = new ShapePour();
        Check.tray(y, 0, 5);
        due("35: no words", y.measure(0), -3);
    }

    private static void chances() {
        ShapePour x = Check.on("page wide 10 lines 1 high 5 least 2 ink 0;words aaaa bbbb cccc;");
        CHECK.row("36: none drawn", new long[] {x.chance(0, 0), x.chance(0, 1)}, 0, 1);
        CHECK.row("36: one", new long[] {x.chance(1, 0), x.chance(1, 1)}, 3, 10);
        CHECK.row("36: two", new long[] {x.chance(2, 0), x.chance(2, 1)}, 51, 100);
        CHECK.row("37: one line", new long[] {x.mean(2, 0), x.mean(2, 1)}, 1, 1);
        CHECK.row("36: refused", new long[] {x.chance(3, 0), x.chance(-1, 1), x.chance(3, 2), x.chance(0, -1)}, -3, -3, -2, -2);
        CHECK.row("37: refused", new long[] {x.mean(3, 0), x.mean(-1, 1), x.mean(3, 2), x.mean(0, -1)}, -3, -3, -2, -2);
        ShapePour y = Check.on("page wide 10 lines 2 high 5 least 2 ink 0;words aaaa bbbb cccc;");
        CHECK.row("37: none", new long[] {y.mean(0, 0), y.mean(0, 1), y.chance(0, 0), y.chance(0, 1)}, 2, 1, 1, 1);
        CHECK.row("37: one", new long[] {y.mean(1, 0), y.mean(1, 1)}, 17, 10);
        CHECK.row("37: two", new long[] {y.mean(2, 0), y.mean(2, 1)}, 149, 100);
        due("36: nothing is hidden then", y.count(3), 0);
    }

    private static void chancesOfHidden() {
        ShapePour x = Check.on("page wide 10 lines 1 high 5 least 2 ink 0;words aaaa bbbb cccc dddd;");
        x.hide(1);
        // Of 0, 2, 3 one must be drawn; 1 is hidden already.
        CHECK.row("36: hidden ones", new long[] {x.chance(1, 0), x.chance(1, 1)}, 3, 10);
        ShapePour y = Check.on("page wide 10 lines 2 high 5 least 2 ink 0;words aaaa;");
        // One word: no line is used behind lot 0.
        CHECK.row("37: all hidden", new long[] {y.mean(1, 0), y.mean(1, 1), y.mean(2, 0), y.mean(2, 1)}, 9, 10, 81, 100);
        CHECK.row("36: none is left", new long[] {y.chance(2, 0), y.chance(2, 1)}, 1, 1);
        ShapePour z = Check.on("page wide 10 lines 1 high 5 least 2 ink 0;words " + "aaaa ".repeat(10) + "b;");
        CHECK.row("36: in no way", new long[] {z.chance(2, 0), z.chance(2, 1)}, 0, 1);
        // Half of the lots: words 0 to 4 wide, of which one must go.
        ShapePour v = Check.on("page wide 10 lines 1 high 5 least 1 ink 0;words aa aa aa aa;");
        CHECK.row("36: lowest terms", new long[] {v.chance(1, 0), v.chance(1, 1), v.chance(2, 0), v.chance(2, 1)}, 2, 5, 16, 25);
    }

    private static void drawer() {
        ShapePour x = Check.on("page wide 10 lines 2 high 5 least 2 ink 0;box 1 2 3 4;circle 5 6 7;wedge 8 9 10 11;circle 12 13 1;");
        CHECK.row("39: refused", new long[] {x.keep(0, 4), x.keep(0, -1), x.keep(0, 0)}, -2, -2, -6);
        CHECK.row("40: refused", new long[] {x.kept(0, 2), x.kept(0, -1), x.kept(0, 0)}, -2, -2, -6);
        CHECK.row("38: refused", new long[] {x.drawer(-1, 10), x.drawer(3, 1), x.drawer(0, -1), x.drawer(0, 10)}, -2, -2, -3, -3);
        due("38: still missing", x.kept(0, 0), -6);
        due("38: circles", x.drawer(1, 9), 0);
        CHECK.row("39: places", new long[] {x.keep(9, 1), x.keep(-1, 1), x.keep(9, 0), x.keep(0, 0), x.keep(0, 2)}, -7, -7, -7, -8, -8);
        CHECK.row("39: kept", new long[] {x.keep(8, 1), x.kept(8, 0), x.kept(8, 1), x.kept(7, 0)}, 0, 5, 6, -5);
        x.drawer(0, 1);
        x.move(0, 0, -1);
        x.move(0, 1, -2);
        CHECK.row("40: at 0", new long[] {x.keep(0, 0), x.kept(0, 0), x.kept(0, 1)}, 0, 0, 0);
        x.drawer(1, 9);
        due("39: in its place", x.keep(8, 3), 0);
        CHECK.row("40: another", new long[] {x.kept(8, 0), x.kept(8, 1), x.kept(9, 0), x.kept(-1, 0), x.kept(9, 2)}, 12, 13, -7, -7, -2);
        x.move(3, 1, 7);
        x.tie(3, 0);
        due("40: a copy", x.kept(8, 1), 13);
        x.keep(0, 3);
        due("39: Y as told and moved", x.kept(0, 1), 20);
        x.undo(2);
        x.image(0);
        Texts.page(x, "page wide 10 lines 2 high 5 least 2 ink 0;");
        x.restore(0);
        CHECK.row("40: stays by all else", new long[] {x.kept(0, 1), x.kept(8, 0)}, 20, 12);
        due("38: it stays", x.drawer(0, 10), -3);
        due("40: as it was", x.kept(8, 0), 12);
        x.drawer(1, 9);
        CHECK.row("38: all empty", new long[] {x.kept(0, 0), x.kept(8, 0)}, -5, -5);
        x.drawer(2, 0);
        CHECK.row("38: without places", new long[] {x.kept(0, 0), x.keep(0, 2), x.keep(0, 0)}, -7, -7, -7);
    }

    private static void trays() {
        ShapePour x = new ShapePour();
        CHECK.row("42: refused", new long[] {x.write(-1, 0, 1), x.write(4, 0, 1), x.write(0, 0, 1)}, -2, -2, -6);
        CHECK.row("41: refused", new long[] {x.numbers(-1, 0, 1), x.numbers(4, 0, 1), x.numbers(0, -1, 1), x.numbers(0, 4, 99), x.numbers(0, 0, -1),
            x.numbers(0, 0, 41)}, -2, -2, -2, -2, -3, -3);
        due("41: still missing", x.write(0, 0, 1), -6);
        long big = 0x123456789abcdef0L;
        long[] due = {(byte) 0xf0, (short) 0xdef0, 0x9abcdef0, big};
        for (int sort = 0; sort < 4; sort++) {
            due("41: made", x.numbers(sort, sort, 40), 0);
            CHECK.row("42: cut", new long[] {x.write(sort, 39, big), x.write(sort, 40, 1), x.write(sort, -1, 1), x.write(sort, 0, -1)}, due[sort], -7, -7, -1);
        }
        CHECK.row("42: cut", new long[] {x.write(0, 0, 127), x.write(0, 0, 128), x.write(1, 0, 32768), x.write(2, 0, 1L << 31)}, 127, -128, -32768, -(1L << 31));
        // All numbers are 0 in a new one: as a deed 0 can't be, so the first place tells.
        x.numbers(3, 3, 2);
        x.write(3, 0, 10);
        x.write(3, 1, 10);
        due("41: kept if refused", x.numbers(3, 3, 41) + x.judge(3, 0), -4);
        x.numbers(3, 2, 2);
        due("41: all 0", x.judge(3, 0), 0);
        x.write(3, 0, 10);
        due("41: all 0", x.judge(3, 0), 1);
        x.numbers(3, 0, 0);
        CHECK.row("41: none", new long[] {x.write(3, 0, 1), x.judge(3, 0)}, -7, -1);
    }

    private static void lists() {
        // The lines come as numbers that the tray's deeds tell: line 10 and more are deeds of the ink.
        ShapePour x = Check.on("page wide 10 lines 20 high 5 least 2 ink 0;words " + "aaaaaaaa ".repeat(22) + ";");
        CHECK.row("43: refused", new long[] {x.lists(-1), x.lists(4), x.lists(0)}, -2, -2, -6);
        Check.tray(x, 0);
        due("43: no places", x.lists(0), 0);
        for (int hidden = 0; hidden < 10; hidden++) {
            x.hide(hidden);
        }
        // Words 10 to 21 lie in lines 0 to 11.
        Check.tray(x, 0, new long[40]);
        due("43: as many as there are words", x.lists(0), 22);
        due("43: the first is hidden", x.judge(0, 0), 0);
        for (int shown = 0; shown < 10; shown++) {
            x.hide(shown);
        }
        Check.tray(x, 1, new long[21]);
        due("43: as far as it has places", x.lists(1), 21);
        due("43: line 0", x.judge(1, 0), 0);
        for (int i = 0; i < 10; i++) {
            x.write(1, i, 10);
        }
        // Lines 10 to 19 are inks 0 to 9; word 20 has no place.
        CHECK.row("43: lines 10 to 19, none", new long[] {x.judge(1, 0), x.perform(1), x.count(2)}, 20, 20, 9);
        Check.tray(x, 2, 14, 14, 14, 14, 14, 14, 14, 14, 14, 14, 14, 14, 14, 14, 14, 14, 14, 14, 14, 14, 14, 14, 14);
        x.lists(2);
        x.write(2, 0, 14);
        CHECK.row("43: behind the words all stays", new long[] {x.judge(2, 0), x.write(2, 22, 14)}, 1, 14);
    }

    private static void images() {
        ShapePour x = Check.on("page wide 10 lines 2 high 5 least 2 ink 0;box 1 2 3 4;words aa bb;");
        CHECK.row("44, 45: refused", new long[] {x.image(-1), x.image(2), x.restore(-1), x.restore(2), x.restore(0), x.restore(1)}, -2, -2, -2, -2, -5, -5);
        x.ink(4);
        x.move(0, 0, 1);
        due("44: made", x.image(0), 0);
        due("46: what can be undone stays", x.count(6), 2);
        x.hide(0);
        x.tie(0, 1);
        x.move(0, 1, 9);
        x.ink(7);
        due("44: the other one", x.image(1), 0);
        due("45: the first", x.restore(0), 0);
        CHECK.row("45: as it was", new long[] {x.count(2), x.count(3), x.count(4), x.shape(0, 1), x.shape(0, 2), x.count(6), x.undo(1)}, 4, 0, 0, 2, 2, 0, -3);
        due("45: the second", x.restore(1), 0);
        CHECK.row("45: as it was", new long[] {x.count(2), x.count(3), x.count(4), x.shape(0, 1), x.shape(0, 2), x.shape(0, 3)}, 7, 1, 1, 2, 11, 1);
        x.ink(1);
        due("45: once more", x.restore(0), 0);
        due("45: ink", x.count(2), 4);
        x.ink(9);
        x.image(0);
        x.ink(8);
        x.restore(0);
        due("44: in place of the other", x.count(2), 9);
    }

    private static void imagesOfPages() {
        ShapePour x = new ShapePour();
        x.image(0);
        for (int i = 1; i < 9; i++) {
            Texts.page(x, "page wide 1" + i + " lines " + i + " high 5 least 2 ink " + i + ";box " + i + " 2 3 4;words aa bb;wide:" + i + ";gap:" + i + ";");
            if (i == 4) {
                x.image(1);
            }
        }
        due("45: the fourth", x.restore(1), 0);
        CHECK.row("45: its page", new long[] {x.set(0), x.set(1), x.count(2), x.shape(0, 1), x.word(1, 1), x.span(0, 0, 0), x.count(8)}, 14, 4, 4, 4, 4, 0, 5);
        Texts.page(x, "page wide 99 lines 9 high 5 least 2 ink 9;gap");
        CHECK.row("45: a text with a fault leaves it", new long[] {x.set(0), x.fault(0), x.restore(1), x.set(0)}, 14, 2, 0, 14);
        due("45: nothing on it", x.restore(0), 0);
        CHECK.row("45: as a new one", new long[] {x.set(0), x.set(1), x.count(0), x.count(1), x.count(5), x.count(8)}, 40, 10, 0, 0, 10, 0);
        due("4: a fault is in no image", x.fault(0), 2);
        x.restore(1);
        due("45: and back", x.word(0, 1), 4);
    }

    private static void counts() {
        ShapePour x = Check.on("page wide 10 lines 2 high 5 least 2 ink 6;box 1 2 3 4;circle 3 3 1;tie 1 8;words aa bb;words cc;");
        x.hide(2);
        x.feed(0, 0, 0, 0, 0);
        long[] got = new long[11];
        for (int what = -1; what < 10; what++) {
            got[what + 1] = x.count(what);
        }
        // Line 0 (0 to 5) and line 1 (5 to 10) have the box (Y 2 to 6) from 1 to 4: 4 to 10 is left of each.
        CHECK.row("46", got, -1, 2, 3, 6, 4, 2, 2, 1, 20, 6, -1);
    }
}
