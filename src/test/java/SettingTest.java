import java.math.BigInteger;

/** Promises 20 to 33: the setting, its rounds, breaks, and what it would be otherwise. */
public final class SettingTest {
    private static final Check CHECK = new Check();

    public static void main(String[] args) {
        placedLastFull();
        ragged();
        tight();
        manyWays();
        roundsThatSettle();
        clash();
        clashOfSome();
        leastWide();
        bestX();
        costs();
        pushes();
        tiedShapeTakenAway();
        CHECK.end();
    }

    private static void due(String what, long got, long want) {
        CHECK.due(what, got, want);
    }

    private static String page(int wide, int lines, int high, int least) {
        return "page wide " + wide + " lines " + lines + " high " + high + " least " + least + " ink 0;";
    }

    private static void placedLastFull() {
        ShapePour x = Check.on(page(30, 4, 5, 2) + "box 10 5 10 5;words aaaaaaaaaaaa bbbbbbbbbbbb ccccccc ddddd eeeeeeeeeee ff ggggggggggg;");
        // Line 0: a, b (12 + 1 + 12, then 7 don't fit); line 1: 0 to 10 c, 20 to 30 d; line 2: e, f, g.
        CHECK.row("20, 21", new long[] {x.placed(), x.last()}, 7, 2);
        CHECK.row("22: bits", new long[] {x.inLine(0), x.inLine(1), x.inLine(2), x.inLine(3), x.inLine(4), x.inLine(-1)}, 3, 12, 112, 0, -2, -2);
        CHECK.row("23: full", new long[] {x.full(0), x.full(1), x.full(2), x.full(3), x.full(4), x.full(-1)}, 800, 400, 800, 0, -2, -2);
        x.hide(3);
        CHECK.row("20: hidden", new long[] {x.placed(), x.inLine(1), x.full(1)}, 6, 4, 233);
        for (int w = 0; w < 7; w++) {
            if (w != 3) {
                x.hide(w);
            }
        }
        CHECK.row("20, 21: all hidden", new long[] {x.placed(), x.last(), x.ragged(), x.tight(), x.tightWays()}, 0, -1, 0, -1, -1);
        ShapePour y = Check.on(page(10, 2, 5, 2) + "words aaaaaaaa bbbbbbbb cccc;");
        CHECK.row("20, 21: some find none", new long[] {y.placed(), y.last(), y.inLine(1)}, 2, 1, 2);
        ShapePour z = Check.on(page(200, 1, 5, 2) + "words " + "a ".repeat(30) + ";");
        due("22: thirty words", z.inLine(0), (1 << 30) - 1);
    }

    private static void ragged() {
        ShapePour x = Check.on(page(10, 5, 5, 2) + "words aaa bb ccccccccc d eeee;");
        // aaa bb leaves 4, ccccccccc 1, the last line counts for nothing.
        due("24", x.ragged(), 17);
        x.hide(4);
        due("24: d is the last", x.ragged(), 17);
        x.hide(3);
        due("24: c is the last", x.ragged(), 16);
        x.hide(2);
        due("24: one slot", x.ragged(), 0);
        ShapePour y = Check.on(page(10, 2, 5, 2) + "words aaaaaaa bbbbbb cccccc;");
        due("24: the last that has a place", y.ragged(), 9);
    }

    private static void tight() {
        ShapePour x = Check.on(page(10, 3, 5, 2) + "words aaa bbb ccc ddd;");
        // Two in a line leave 3 in the first one; any two of the three lines do.
        CHECK.row("25, 26", new long[] {x.ragged(), x.tight(), x.tightWays()}, 9, 9, 3);
        ShapePour y = Check.on(page(10, 3, 5, 1) + "words aaa bb ccccc ddddd;");
        // Pouring: "aaa bb" leaves 4, "ccccc" 5: 41. Else "aaa" leaves 7: 49 and "bb ccccc" 2: 4.
        CHECK.row("25, 26", new long[] {y.ragged(), y.tight(), y.tightWays()}, 41, 41, 1);
        ShapePour z = Check.on(page(10, 3, 5, 1) + "words aaaaaa bb cccc ddddd eeeee;");
        // Pouring: "aaaaaa bb" leaves 1, "cccc ddddd" 0. With the last word all in its place: 1.
        CHECK.row("25, 26", new long[] {z.ragged(), z.tight(), z.tightWays()}, 1, 1, 1);
        ShapePour v = Check.on(page(10, 3, 5, 1) + "words aaaaa bb ccccc ddddd e;");
        // Pouring: "aaaaa bb" leaves 2, "ccccc" 5: 29. Else "aaaaa" leaves 5, "bb ccccc" 2: 29 as well.
        CHECK.row("25, 26: two ways", new long[] {v.ragged(), v.tight(), v.tightWays()}, 29, 29, 2);
        ShapePour u = Check.on(page(10, 4, 5, 1) + "words aaaa bb cccc dddddd eeeee f;");
        // Pouring: "aaaa bb" 3, "cccc" 6 ("cccc dddddd" takes 11), "dddddd" 4: 61. Else "aaaa" 6, "bb cccc" 3, "dddddd" 4: 61.
        CHECK.row("25, 26: two ways", new long[] {u.ragged(), u.tight(), u.tightWays()}, 61, 61, 2);
        ShapePour w = Check.on(page(12, 2, 1, 2) + "box 4 0 3 1;words aa bbbbb cc;");
        // Slots 4 and 5 wide, then 12. Pouring: "aa" leaves 2, "bbbbb" 0, "cc". Else: all three in the last slot.
        CHECK.row("25, 26: slots left empty", new long[] {w.ragged(), w.tight(), w.tightWays()}, 4, 0, 1);
        w.hide(2);
        due("25: the last word's slot is free", w.tight(), 0);
    }

    private static void manyWays() {
        String slits = "box 1 0 1 20;box 3 0 1 20;box 5 0 1 20;box 7 0 1 20;box 9 0 1 20;box 11 0 1 20;";
        // 140 slots as wide as a letter.
        ShapePour x = Check.on(page(13, 20, 1, 1) + slits + "words " + "a ".repeat(30) + ";");
        CHECK.row("25, 26: very many", new long[] {x.count(5), x.placed(), x.tight(), x.tightWays()}, 140, 30, 0, 1000000000000000L);
        BigInteger ways = BigInteger.ONE;
        for (int i = 0; i < 10; i++) {
            ways = ways.multiply(BigInteger.valueOf(140 - i)).divide(BigInteger.valueOf(i + 1));
        }
        ShapePour y = Check.on(page(13, 20, 1, 1) + slits + "words " + "a ".repeat(10) + ";");
        due("26: ten of 140", y.tightWays(), ways.longValueExact());
        ShapePour z = Check.on(page(13, 20, 1, 1) + slits + "words " + "a ".repeat(11) + ";");
        due("26: eleven of 140", z.tightWays(), 1000000000000000L);
    }

    private static void roundsThatSettle() {
        ShapePour x = Check.on(page(10, 6, 5, 2) + "box 0 5 10 5;words aaaaaaaaa bbbbbbbbb ccccccccc;");
        CHECK.row("27, 28: not tied", new long[] {x.rounds(), x.still(), x.clash(), x.last()}, 0, 0, 0, 3);
        x.tie(0, 0);
        // Word 0 stays in line 0, so the box is at Y 5 from round 1 on.
        CHECK.row("27, 28: still at once", new long[] {x.rounds(), x.still(), x.clash(), x.shape(0, 4), x.last()}, 1, 0, 0, 5, 3);
        x.tie(0, 1);
        // Word 1 lies in line 1, the box goes to Y 10, line 2, and pushes word 2 only.
        CHECK.row("27, 28: below its word", new long[] {x.rounds(), x.still(), x.shape(0, 4), x.lies(1, 0), x.lies(2, 0)}, 1, 0, 10, 1, 3);
        x.tie(0, 5);
        CHECK.row("27, 28: tied to no word", new long[] {x.rounds(), x.still(), x.shape(0, 4), x.last()}, 1, 0, -1, 2);
        // Two shapes, one of which pushes the word of the other one.
        ShapePour y = Check.on(page(10, 9, 5, 2) + "box 0 5 10 5;box 0 5 10 5;tie 0 0;tie 1 1;words aaaaaaaaa bbbbbbbbb ccccccccc;");
        // Round 0: lines 0 1 2. Round 1: boxes at 5 and 10: lines 0 3 4. Round 2: at 5 and 20: 0 2 3. Round 3: at 5 and 15: 0 2 4. As in 2.
        CHECK.row("27, 28: in three rounds", new long[] {y.rounds(), y.still(), y.shape(1, 4), y.lies(1, 0), y.lies(2, 0), y.slots(1), y.slots(3)},
            3, 0, 15, 2, 4, 0, 0);
    }

    private static void clash() {
        ShapePour x = Check.on(page(10, 5, 5, 2) + "box 0 0 8 5;box 0 20 8 5;tie 0 2;tie 1 0;words aaaaaaaaa bbbb cccc;");
        // Words 1, 2: line 1, then with the box there 2, then 1 again. The other box stays at Y 20.
        CHECK.row("27, 28, 29", new long[] {x.rounds(), x.still(), x.clash(), x.shape(0, 4), x.shape(1, 4), x.lies(2, 0)}, 2, 1, 1, 10, 20, 1);
        due("8: in the last round", x.span(0, 2, 1), 8);
        due("8: in the last round", x.span(0, 1, 1), -99000001);
        due("9: in the last round", x.slots(2), 1);
        x.hide(2);
        CHECK.row("28, 29: its word is hidden", new long[] {x.rounds(), x.still(), x.clash()}, 1, 0, 0);
    }

    private static void clashOfSome() {
        // The box is there in every other round alone: it leaves no place for its word.
        ShapePour x = Check.on(page(10, 1, 5, 2) + "box 0 0 8 5;tie 0 0;words aaaa;");
        CHECK.row("29: there or not", new long[] {x.rounds(), x.still(), x.clash(), x.shape(0, 4), x.placed()}, 2, 1, 1, -1, 1);
    }

    private static void leastWide() {
        ShapePour x = Check.on(page(40, 2, 5, 2) + "words aaaaaa bbbbbb cccccc;");
        due("30: two lines", x.leastWide(), 13);
        x.hide(2);
        due("30: two words", x.leastWide(), 10);
        ShapePour y = Check.on(page(40, 1, 5, 2) + "words a b;wide : 100;");
        due("30: there is none", y.leastWide(), -1);
        ShapePour z = Check.on(page(40, 1, 5, 2) + "words a;wide : 200;");
        due("30: 200", z.leastWide(), 200);
        due("30: all else as it is", z.set(0), 40);
        ShapePour v = Check.on(page(40, 1, 5, 2) + "box 4 0 10 5;words aaaaaa;");
        due("30: behind the box", v.leastWide(), 20);
        // 10 to 13 wide: slot of 10 ahead of the box. No word is left out at 10, so it is the least.
        ShapePour w = Check.on(page(40, 1, 5, 2) + "box 10 0 10 5;words aaaaaaaaaa;");
        due("30: ahead of the box", w.leastWide(), 10);
    }

    private static void bestX() {
        ShapePour x = Check.on(page(20, 2, 5, 2) + "box 8 0 5 5;words aaaaaa bbbbbb cccc;");
        // 20 wide hold 6, 6, 4 with 2 between in two lines only beside a box of 5; at 0: 5 to 20 holds a, b; c in line 1.
        CHECK.row("31: refused", new long[] {x.bestX(1), x.bestX(-1)}, -2, -2);
        // Beyond 18 all lie in line 0 (6 + 1 + 6 + 1 + 4 = 18).
        due("31: last line first", x.bestX(0), 18);
        due("31: X stays", x.shape(0, 1), 8);
        ShapePour y = Check.on(page(20, 1, 5, 2) + "box 8 0 5 5;words aaaaaa bbbbbb;");
        // At 0: 5 to 20 has 15 for 13.
        due("31: the least of like ones", y.bestX(0), 0);
        ShapePour z = Check.on(page(20, 1, 5, 2) + "box 9 0 5 5;words aaaaaaaa bbbbbbb;");
        // 8 + 7 beside 5 fit only if 8 are left of it, 7 to its right: X 8.
        due("31: between", z.bestX(0), 8);
        ShapePour v = Check.on(page(20, 1, 5, 2) + "circle 9 0 5;words a;wide:16;");
        // Its span of 10 must begin at 16.
        due("31: most words", v.bestX(0), 21);
        ShapePour w = Check.on(page(200, 1, 5, 2) + "box 9 0 5 5;words a;wide:200;");
        due("31: as far as it can be", w.bestX(0), 200);
    }

    private static void costs() {
        due("32: there are none", Check.on(page(20, 1, 5, 2) + "words a;").costs(), -1);
        ShapePour x = Check.on(page(20, 2, 5, 2) + "box 0 5 5 5;box 0 0 15 5;box 0 0 2 1;words aaaaaa bbbbbb;");
        // All words are in line 1 with 15 wide; only without shape 1 they come to line 0.
        CHECK.row("32: last line", new long[] {x.last(), x.costs()}, 1, 1);
        ShapePour y = Check.on(page(20, 2, 5, 2) + "box 0 0 1 5;box 3 5 17 5;box 3 0 17 5;words aaa bbbbbb;");
        // Without 1 or without 2 both find a place, without 2 in line 0.
        CHECK.row("32: most words, then the last line", new long[] {y.placed(), y.costs()}, 1, 2);
        ShapePour z = Check.on(page(20, 2, 5, 2) + "box 0 0 1 5;box 30 0 1 5;words aaa;");
        due("32: the first of like ones", z.costs(), 0);
        // Without words no line is used without any of them.
        due("32: no words", Check.on(page(20, 2, 5, 2) + "box 0 0 1 5;box 0 0 1 5;").costs(), 0);
    }

    private static void pushes() {
        ShapePour x = Check.on(page(20, 2, 5, 2) + "box 8 0 4 5;box 0 5 2 5;words aaa bbb ccc dddd eeee ff;");
        // With both: a b at 0, 4; c d at 12, 16; e in line 1 at 2, f at 7. Without 0: c at 8, d at 12, e at 2, f at 7.
        due("33: left", x.pushes(0), 4 + 8);
        due("33: line below", x.pushes(1), 16 + 32);
        CHECK.row("33: refused", new long[] {x.pushes(2), x.pushes(-1)}, -2, -2);
        ShapePour y = Check.on(page(20, 1, 5, 2) + "box 3 0 20 5;words aaa bbb;");
        due("33: has a place otherwise", y.pushes(0), 2);
        y.hide(1);
        due("33: hidden ones lie nowhere", y.pushes(0), 0);
    }

    private static void tiedShapeTakenAway() {
        ShapePour x = Check.on(page(10, 4, 5, 2) + "box 0 0 8 5;tie 0 1;box 0 5 9 5;words aaaa bbbb cccc;");
        // Without shape 0 (tied, at line 0 or 2): a b in line 0, c in line 2. With it: round 1 has it at line 0: a b in 2, c in 3;
        // round 2 at line 2: a b in 0, c in 3. That is as in round 0.
        CHECK.row("27: clashes", new long[] {x.rounds(), x.still(), x.lies(0, 0), x.lies(2, 0)}, 2, 1, 0, 3);
        CHECK.row("33: without each", new long[] {x.pushes(0), x.pushes(1)}, 4, 0b100);
        // Without the other one it clashes too, and c lies in line 2.
        due("32: the last line is 2 without either", x.costs(), 0);
    }
}
