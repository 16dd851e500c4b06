import java.math.BigInteger;

/**
 * Each sentence about the setting, breaks and what it would be otherwise (promises 20 to 33) that
 * names a boundary case: one test each, headed by the sentence.
 */
public final class SettingBoundsTest {
    private static final Check CHECK = new Check();
    private static final int LEAST = Integer.MIN_VALUE;
    private static final int MOST = Integer.MAX_VALUE;

    public static void main(String[] args) {
        placedNoneToThirty();
        lastNone();
        inLineAsBits();
        inLineRefused();
        fullRoundedDown();
        fullWithoutTheBetween();
        fullRefused();
        raggedOfNone();
        raggedButTheLast();
        raggedOfUsedSlots();
        raggedOfFullSlots();
        tightNone();
        tightOfTheSameWords();
        tightInSlotsThatAreNotUsed();
        tightHasRoom();
        tightLeavesOutTheLast();
        tightWaysOfOneWord();
        tightWaysUpToTheMost();
        roundsOfTheSetting();
        clashBehindTheOneItComesBackTo();
        clashOfTiedOnes();
        clashNoMore();
        leastWideFromTen();
        leastWideToTwoHundred();
        leastWideNone();
        leastWideOfThoseShown();
        leastWideTheFirst();
        bestXRefused();
        bestXZeroAndTwoHundred();
        bestXMostWords();
        bestXLastLine();
        bestXChangesNothing();
        bestXOfOneThatIsNotThere();
        costsNone();
        costsMostWords();
        costsLastLine();
        costsTheFirst();
        costsTheRoundsToo();
        pushesRefused();
        pushesNothing();
        pushesLinesAndLefts();
        pushesFromAPlace();
        pushesIntoAPlace();
        pushesAll();
        CHECK.end();
    }

    private static void due(String what, long got, long want) {
        CHECK.due(what, got, want);
    }

    private static void row(String what, long[] got, long... want) {
        CHECK.row(what, got, want);
    }

    private static ShapePour on(int wide, int lines, int least, String behind) {
        return Check.on("page wide " + wide + " lines " + lines + " high 5 least " + least + " ink 0;" + behind);
    }

    // ---- promises 20 to 23

    /** How many WORDS have a place. */
    private static void placedNoneToThirty() {
        row("20: none there", new long[] {new ShapePour().placed(), on(10, 1, 1, "").placed(), on(10, 1, 1, "words;").placed()}, 0, 0, 0);
        due("20: thirty", on(59, 1, 1, "words" + " a".repeat(30) + ";").placed(), 30);
        due("20: the last has no room", on(58, 1, 1, "words" + " a".repeat(30) + ";").placed(), 29);
        due("20: the first has none", on(10, 1, 1, "words abcdefghijk a;").placed(), 0);
        ShapePour x = on(10, 1, 1, "words a b;");
        x.hide(0);
        due("20: one hidden", x.placed(), 1);
        x.hide(1);
        due("20: all hidden", x.placed(), 0);
    }

    /** The last LINE that is used. NONE: none. */
    private static void lastNone() {
        row("21: no words", new long[] {new ShapePour().last(), on(10, 1, 1, "words abcdefghijk a;").last(), on(10, 1, 11, "words a;").last()}, -1, -1, -1);
        row("21: the first line", new long[] {on(10, 20, 1, "words a;").last(), on(10, 1, 1, "words a;").last()}, 0, 0);
        due("21: the twentieth", on(10, 20, 1, "words" + " abcdefghij".repeat(20) + ";").last(), 19);
        due("21: lines ahead of it are not used", on(10, 4, 1, "box 0 0 10 15;words a;").last(), 3);
    }

    /** WORDS in a LINE, as bits. */
    private static void inLineAsBits() {
        ShapePour x = on(29, 3, 1, "words" + " a".repeat(30) + ";");
        row("22: fifteen each", new long[] {x.inLine(0), x.inLine(1), x.inLine(2)}, (1 << 15) - 1, ((1 << 15) - 1) << 15, 0);
        x.hide(0);
        x.hide(29);
        row("22: without the first and the last", new long[] {x.inLine(0), x.inLine(1)}, ((1 << 15) - 1) << 1, ((1 << 13) - 1) << 16);
        due("22: the thirtieth alone", on(10, 1, 1, "words" + " a".repeat(30) + ";wide:10;").inLine(0), 1);
        due("22: none", new ShapePour().inLine(9), 0);
    }

    /** inLine: -2. */
    private static void inLineRefused() {
        ShapePour x = on(10, 2, 1, "words a;");
        row("22: lines", new long[] {x.inLine(2), x.inLine(-1), x.inLine(19), x.inLine(20), x.inLine(LEAST), x.inLine(MOST)}, -2, -2, -2, -2, -2, -2);
        row("22: of a new object", new long[] {new ShapePour().inLine(9), new ShapePour().inLine(10)}, 0, -2);
    }

    /** in thousandths of WIDE, rounded down */
    private static void fullRoundedDown() {
        row("23: parts", new long[] {on(30, 1, 1, "words a;").full(0), on(30, 1, 1, "words aa;").full(0), on(200, 1, 1, "words a;").full(0),
            on(199, 1, 1, "words a;").full(0), on(12, 1, 1, "words abcdefghijk;").full(0)}, 33, 66, 5, 5, 916);
        row("23: all, none", new long[] {on(10, 2, 1, "words abcdefghij;").full(0), on(10, 2, 1, "words abcdefghij;").full(1)}, 1000, 0);
        due("23: 200 of 200", on(200, 1, 1, "words a;wide:999;").full(0), 1000);
    }

    /** (what is between them aside) */
    private static void fullWithoutTheBetween() {
        due("23: two with 1 between", on(10, 1, 1, "words aaaa bbbbb;").full(0), 900);
        ShapePour x = on(10, 1, 1, "box 3 0 2 5;words aaa bb cc;");
        due("23: in two slots", x.full(0), 700);
        x.hide(1);
        due("23: hidden ones take nothing", x.full(0), 500);
    }

    /** full: -2. */
    private static void fullRefused() {
        ShapePour x = on(10, 2, 1, "words a;");
        row("23: lines", new long[] {x.full(2), x.full(-1), x.full(19), x.full(20), x.full(LEAST), x.full(MOST)}, -2, -2, -2, -2, -2, -2);
        row("23: of a new object", new long[] {new ShapePour().full(9), new ShapePour().full(10)}, 0, -2);
    }

    // ---- promises 24 to 26

    private static long[] breaks(ShapePour x) {
        return new long[] {x.ragged(), x.tight(), x.tightWays()};
    }

    /** RAGGED of no WORDS; BREAKS: NONE: no WORD has a place */
    private static void raggedOfNone() {
        row("24: a new object", breaks(new ShapePour()), 0, -1, -1);
        row("24: none has a place", breaks(on(10, 1, 1, "words abcdefghijk;")), 0, -1, -1);
        row("24: no slots", breaks(on(10, 1, 11, "words a;")), 0, -1, -1);
    }

    /** but for that of the last WORD */
    private static void raggedButTheLast() {
        due("24: one slot", on(10, 3, 1, "words aaa bb;").ragged(), 0);
        due("24: two", on(10, 3, 1, "words aaa bb ccccccccc;").ragged(), 16);
        due("24: the last in its slot's middle", on(10, 3, 1, "words aaaaaaa bbbbb cc;").ragged(), 9);
        due("24: three", on(10, 3, 1, "words aaaaaaa bbbbbbb ccccccc;").ragged(), 18);
        ShapePour x = on(10, 3, 1, "words aaaaaaa bbbbbbb ccccccc;");
        x.hide(2);
        due("24: the last that is shown", x.ragged(), 9);
        due("24: the last that has a place", on(10, 2, 1, "words aaaaaaa bbbbbb ccccccc;").ragged(), 9);
    }

    /** LEFT of a SLOT into which WORDS were POURED */
    private static void raggedOfUsedSlots() {
        // Line 0: 0 to 4, 6 to 9, 11 to 20; "bbbb" leaves 6 to 9 empty.
        due("24: empty ones don't count", on(20, 2, 1, "box 4 0 2 5;box 9 0 2 5;words aaa bbbb cccccccccc;").ragged(), 1 + 25);
        due("24: nor does the rest of a line", on(20, 3, 1, "box 15 0 5 5;words" + " aaaaaaa".repeat(3) + ";").ragged(), 0);
    }

    /** its width less theirs and the 1 between: 0 */
    private static void raggedOfFullSlots() {
        row("24: full", breaks(on(10, 3, 1, "words aaaaa bbbb cc ddd eee f;")), 0, 0, 1);
        row("24: by 1", breaks(on(10, 3, 1, "words aaaaa bbb cc ddd eee f;")), 1, 1, 1);
    }

    /** tight: NONE: no WORD has a place. */
    private static void tightNone() {
        ShapePour x = on(10, 3, 1, "words a;");
        row("25: one", breaks(x), 0, 0, 3);
        x.hide(0);
        row("25: hidden", breaks(x), 0, -1, -1);
        row("25: no words", breaks(on(10, 3, 1, "")), 0, -1, -1);
    }

    /** the same WORDS that find a place */
    private static void tightOfTheSameWords() {
        // "cccccccccc" has a place, the fourth has none: it must have none in all breaks.
        row("25: three of four", breaks(on(10, 3, 1, "words aaa bbb cccccccccc ddddddd eeeeeeeeee;")), 9, 9, 1);
        ShapePour x = on(10, 3, 1, "words aaa xxxx bbb ccccccc;");
        x.hide(1);
        // "aaa bbb" leaves 3, the last line is any of two more, or the first two are in line 1.
        row("25: hidden ones aside", breaks(x), 9, 9, 3);
    }

    /** in all SLOTS of THE SETTING (used there or not) in the same order, some SLOTS left empty */
    private static void tightInSlotsThatAreNotUsed() {
        // Slots of 6 and 3 in line 0, of 10 in line 1. Pouring: "aaa" leaves 3, "bbb" 0, "ccc": 9. Else "aaa" in the slot of 3, "bbb ccc" below.
        row("25: the first left empty", breaks(on(10, 2, 1, "box 6 0 1 5;words aaa bbb ccc;")), 9, 0, 1);
        // The words all in the last slot of 20, and in line 1 of 20 as well.
        row("25: all but one left empty", breaks(on(20, 2, 1, "box 5 0 1 5;words aaaa bbbb cccc;")), 1, 0, 2);
        row("25: those behind the last word", breaks(on(10, 20, 1, "words aaaaaaaaaa;")), 0, 0, 20);
    }

    /** each SLOT taking WORDS next to one another that it has room for */
    private static void tightHasRoom() {
        // Each of 10 has no room for two of 5.
        row("25: by 1 too wide", breaks(on(10, 3, 1, "words aaaaa bbbbb ccccc;")), 50, 50, 1);
        row("25: just room", breaks(on(10, 3, 1, "words aaaaa bbbb ccccc;")), 0, 0, 3);
    }

    /** (of the SLOTS that take some, but for that of the last WORD) */
    private static void tightLeavesOutTheLast() {
        // Pouring: "aaaa bb cc" 0, "ddd": 0, the last line is free.
        row("25: the last line", breaks(on(10, 2, 1, "words aaaa bb cc ddd;")), 0, 0, 1);
        // Pouring: "aaa bb" leaves 4, "ccccc dd" is the last: 16. Else "aaa" leaves 7.
        row("25: no gain", breaks(on(10, 2, 1, "words aaa bb ccccc dd;")), 16, 16, 1);
        // Pouring: "aaa bbb" 3, "ccccc" 5, "ddddddd": 34. Else "aaa" 7, "bbb ccccc" 1: 50.
        row("25: the last line of three", breaks(on(10, 3, 1, "words aaa bbb ccccc ddddddd;")), 34, 34, 1);
        // Pouring: "aaaa bbb" 2, "ccccccc" 3: 13. Else "bbb ccccccc" has no room.
        row("25: no other breaks", breaks(on(10, 3, 1, "words aaaa bbb ccccccc ddddddd;")), 4 + 9, 13, 1);
        // Pouring: "aaaaa bb" 2, "cccccc" 4, "ddddddd": 20. Else "aaaaa" 5, "bb cccccc" 1: 26.
        row("25: 20, not 26", breaks(on(10, 3, 1, "words aaaaa bb cccccc ddddddd;")), 20, 20, 1);
        // Pouring: "aaa bb" 4, "ccccccc" 3, "dddddddd": 25. Else "aaa" 7, "bb ccccccc" 0: 49.
        row("25: 25, not 49", breaks(on(10, 3, 1, "words aaa bb ccccccc dddddddd;")), 25, 25, 1);
        // Pouring: "aaaaaa bb" 1, "cccccc" 4, "ddddddd": 17. Else "aaaaaa" 4, "bb cccccc" 1: 17, too.
        row("25: two ways to 17", breaks(on(10, 3, 1, "words aaaaaa bb cccccc ddddddd;")), 17, 17, 2);
        // Pouring: "aaaaaa bb" 1, "ccccc" 5, "dddddd": 26. Else "aaaaaa" 4, "bb ccccc" 2: 20.
        row("25: 20, not 26", breaks(on(10, 3, 1, "words aaaaaa bb ccccc dddddd;")), 26, 20, 1);
    }

    /** in how many ways it is the least */
    private static void tightWaysOfOneWord() {
        for (int lines = 1; lines <= 20; lines++) {
            row("26: a word in each line", breaks(on(10, lines, 1, "words aaa;")), 0, 0, lines);
            if (lines >= 2) {
                // Both in one line, or the first alone, which leaves 7.
                row("26: two words", breaks(on(10, lines, 1, "words aaa bbb;")), 0, 0, lines);
                row("26: two that do not meet", breaks(on(10, lines, 1, "words aaaaaa bbbbbb;")), 16, 16, lines * (lines - 1) / 2);
            }
        }
    }

    /** (1,000,000,000,000,000, if there are more) */
    private static void tightWaysUpToTheMost() {
        String slits = "box 1 0 1 100;box 3 0 1 100;box 5 0 1 100;box 7 0 1 100;box 9 0 1 100;box 11 0 1 100;";
        for (int n = 1; n <= 30; n++) {
            BigInteger ways = BigInteger.ONE;
            for (int i = 0; i < n; i++) {
                ways = ways.multiply(BigInteger.valueOf(140 - i)).divide(BigInteger.valueOf(i + 1));
            }
            ShapePour x = on(13, 20, 1, slits + "words" + " a".repeat(n) + ";");
            due("26: " + n + " of 140", x.tightWays(), ways.min(BigInteger.TEN.pow(15)).longValueExact());
            due("25: all full", x.tight(), 0);
        }
        ShapePour y = on(10, 2, 1, "box 1 0 8 5;words a bb;");
        // "a" in 0 to 1, "bb" in line 1; "a bb" in line 1; "a" in 9 to 10, "bb" in line 1.
        row("26: three ways", breaks(y), 0, 0, 3);
    }

    // ---- promises 27 to 29

    /** The ROUND of THE SETTING. 0: it is STILL, 1: it CLASHES, 2: neither */
    private static void roundsOfTheSetting() {
        ShapePour x = on(10, 9, 2, "box 0 5 10 5;box 0 5 10 5;tie 0 0;tie 1 1;words aaaaaaaaa bbbbbbbbb ccccccccc;");
        // Word 1 lies in line 1, 3, 2, 2 in rounds 0 to 3.
        row("27, 28: still at 3", new long[] {x.rounds(), x.still(), x.clash()}, 3, 0, 0);
        x.tie(1, -1);
        row("27, 28: one tie less", new long[] {x.rounds(), x.still(), x.clash()}, 1, 0, 0);
        x.undo(1);
        row("27, 28: once more", new long[] {x.rounds(), x.still(), x.clash()}, 3, 0, 0);
        x.tie(0, 2);
        x.tie(1, 2);
        x.move(0, 1, -5);
        x.move(1, 1, -5);
        // Word 2 in line 2, pushed to 3, then again in 2.
        row("27, 28: clashes", new long[] {x.rounds(), x.still(), x.clash()}, 2, 1, 3);
    }

    /** in all ROUNDS behind the one it comes back to, up to that of THE SETTING */
    private static void clashBehindTheOneItComesBackTo() {
        // Word 0 stays in line 0, word 2 comes round by turns: shape 0 is at the same Y in all rounds behind 0.
        ShapePour x = on(10, 6, 2, "words aaaaaaaaa bbbbbbbbb ccccccccc;box 200 0 1 1;box 0 0 10 5;tie 0 0;tie 1 2;");
        row("29: not there in round 0", new long[] {x.rounds(), x.still(), x.clash(), x.shape(0, 4), x.shape(1, 4)}, 2, 1, 2, 0, 15);
        // Shape 0 pushes words 1 and 2 by one line from round 1 on, which does not come back: word 2 then goes by turns.
        ShapePour y = on(10, 9, 2, "words aaaaaaaaa bbbbbbbbb ccccccccc;box 0 5 10 5;box 200 0 1 1;box 0 0 10 5;tie 0 0;tie 1 1;tie 2 2;");
        // Round 0: 0 1 2. Round 1, boxes in lines 1, 2: 0 3 4. Round 2, in 1, 4: 0 2 3. Round 3, in 1, 3: 0 2 4. Round 4, in 1, 4: as in 2.
        row("29: comes back to 2", new long[] {y.rounds(), y.still(), y.clash(), y.shape(1, 4), y.shape(2, 4), y.lies(2, 0)}, 4, 1, 4, 10, 20, 3);
    }

    /** SHAPES that are tied */
    private static void clashOfTiedOnes() {
        ShapePour x = on(10, 2, 1, "words aaaa;box 0 0 10 5;box 200 0 1 1;tie 0 0;");
        row("29: the tied one", new long[] {x.still(), x.clash()}, 1, 1);
        x.tie(1, 0);
        row("29: both", new long[] {x.still(), x.clash()}, 1, 3);
        x.tie(1, 9);
        row("29: its word isn't", new long[] {x.still(), x.clash()}, 1, 1);
        x.tie(0, -1);
        row("29: it doesn't clash", new long[] {x.still(), x.clash()}, 0, 0);
        ShapePour y = on(10, 1, 1, "words aaaa;" + "box 200 0 1 1;".repeat(5) + "box 0 0 10 5;tie 5 0;");
        row("29: there or not", new long[] {y.still(), y.clash(), y.shape(5, 4)}, 1, 32, -1);
    }

    /** 0: it doesn't CLASH: nor does a page that is read when one clashed */
    private static void clashNoMore() {
        ShapePour x = new ShapePour();
        for (int i = 0; i < 3; i++) {
            Texts.page(x, "page wide 10 lines 2 high 5 least 1 ink 0;words aaaa;box 0 0 10 5;box 200 0 1 1;tie 0 0;tie 1 0;");
            row("29: clashes", new long[] {x.rounds(), x.still(), x.clash()}, 2, 1, 3);
            Texts.page(x, "page wide 10 lines 9 high 5 least 2 ink 0;box 0 5 10 5;box 0 5 10 5;tie 0 0;tie 1 1;words aaaaaaaaa bbbbbbbbb ccccccccc;");
            // Word 1 lies in line 1, 3, 2, 2.
            row("29: is still at 3", new long[] {x.rounds(), x.still(), x.clash()}, 3, 0, 0);
        }
    }

    // ---- promise 30

    /** The least WIDE (10 to 200) */
    private static void leastWideFromTen() {
        row("30: 10", new long[] {new ShapePour().leastWide(), on(200, 1, 1, "words a;").leastWide(), on(200, 1, 1, "words abcdefghij;").leastWide(),
            on(200, 1, 1, "words;").leastWide()}, 10, 10, 10, 10);
        due("30: 11", on(200, 1, 1, "words abcdefghijk;").leastWide(), 11);
        row("30: wider than it is", new long[] {on(10, 1, 1, "words aaaaaa bbbbbb;").leastWide(), on(10, 1, 50, "words a;").leastWide()}, 13, 50);
    }

    /** (10 to 200) */
    private static void leastWideToTwoHundred() {
        row("30: 199, 200", new long[] {on(10, 1, 1, "words a;wide:199;").leastWide(), on(10, 1, 1, "words a;wide:200;").leastWide()}, 199, 200);
        due("30: 99 and 100", on(10, 1, 1, "words a b;wide:99+word;").leastWide(), 200);
        due("30: 100 and 100", on(10, 1, 1, "words a b;wide:100;").leastWide(), -1);
        due("30: behind a box", on(10, 1, 1, "box 0 0 199 5;words a;").leastWide(), 200);
    }

    /** NONE: there is none. */
    private static void leastWideNone() {
        due("30: all over", on(10, 1, 1, "box 0 0 200 5;words a;").leastWide(), -1);
        due("30: 201", on(10, 1, 1, "box 0 0 199 5;words aa;").leastWide(), -1);
        due("30: no words, all over", on(10, 1, 1, "box 0 0 200 5;").leastWide(), 10);
    }

    /** all WORDS that aren't hidden */
    private static void leastWideOfThoseShown() {
        ShapePour x = on(10, 1, 1, "words aaaaaa bbbbbb cccccccccccc;");
        due("30: all", x.leastWide(), 26);
        x.hide(1);
        due("30: two", x.leastWide(), 19);
        x.hide(2);
        due("30: one", x.leastWide(), 10);
        x.hide(0);
        due("30: none", x.leastWide(), 10);
    }

    /** the least, all else as it is: wider ones may not do */
    private static void leastWideTheFirst() {
        ShapePour x = on(30, 1, 1, "words aaaaaaaaaa;box 10 0 200 5;");
        row("30: 10", new long[] {x.leastWide(), x.set(0), x.placed()}, 10, 30, 1);
        // The shape goes down with the word that it pushes: at 10 to 12 in another line than at 13.
        ShapePour y = on(20, 2, 1, "words aaaaaa bbbbbb;box 0 0 13 5;tie 0 1;");
        // At 10: round 1 has it in line 1: no place for word 1, as it leaves none; so it isn't there; so there again.
        row("30: by the last round", new long[] {y.rounds(), y.still(), y.placed(), y.leastWide()}, 2, 1, 2, 10);
    }

    // ---- promise 31

    /** bestX: -2. */
    private static void bestXRefused() {
        ShapePour x = on(20, 2, 1, "box 8 0 5 5;words a;");
        row("31: shape", new long[] {x.bestX(1), x.bestX(-1), x.bestX(5), x.bestX(6), x.bestX(LEAST), x.bestX(MOST)}, -2, -2, -2, -2, -2, -2);
    }

    /** The X (0 to 200) */
    private static void bestXZeroAndTwoHundred() {
        row("31: no words", new long[] {on(20, 2, 1, "box 8 0 5 5;").bestX(0), on(20, 2, 1, "box 200 0 5 5;").bestX(0)}, 0, 0);
        due("31: 200", on(200, 1, 1, "box 8 0 1 5;words a;wide:200;").bestX(0), 200);
        due("31: 199", on(199, 1, 1, "box 8 0 1 5;words a;wide:199;").bestX(0), 199);
        due("31: none does", on(200, 1, 1, "circle 8 0 1;words a;wide:200;").bestX(0), 0);
        due("31: the least of like ones", on(20, 1, 1, "box 100 0 5 5;words a;").bestX(0), 0);
    }

    /** by which most WORDS have a place */
    private static void bestXMostWords() {
        // At 0 one word lies in line 0; two from 12 on, of 6 and 5.
        due("31: two, not one", on(20, 1, 1, "box 0 0 13 5;words aaaaaa bbbbb;").bestX(0), 12);
        // 3 and 3 in slots of a line of 10 beside a box of 4: 3 ahead of it, or 6 without room for 1 between.
        due("31: between", on(10, 1, 1, "box 9 0 4 5;words aaa bbb;").bestX(0), 3);
    }

    /** of like ones the one by which the last LINE that is used is least */
    private static void bestXLastLine() {
        due("31: line 0", on(20, 3, 1, "box 0 0 13 5;words aaaaaaaa bbbbbbbbbb;").bestX(0), 19);
        due("31: then the least", on(20, 3, 1, "box 0 0 13 5;words aaaaaaaa bbb;").bestX(0), 12);
    }

    /** all else as it is */
    private static void bestXChangesNothing() {
        ShapePour x = on(20, 2, 1, "box 8 0 5 5;words aaaaaaaaa bbbbbbbb;");
        x.ink(1);
        row("31: X stays", new long[] {x.bestX(0), x.shape(0, 1), x.span(0, 0, 0), x.lies(0, 1), x.count(6)}, 18, 8, 8, 0, 1);
    }

    /** a SHAPE that isn't there does alike by each X */
    private static void bestXOfOneThatIsNotThere() {
        ShapePour x = on(20, 2, 1, "box 8 0 12 5;words aaaaaaaaa bbbbbbbb;tie 0 9;");
        due("31: its word isn't", x.bestX(0), 0);
        ShapePour y = on(20, 2, 1, "box 8 0 5 5;words aaaaaaaaa bbbbbbbb;tie 0 0;");
        // Up to 6 word 1 is pushed to line 1; at 7 word 0 is, so that the shape is below both in the last round.
        row("31: tied", new long[] {y.bestX(0), y.tie(0, -1), y.bestX(0)}, 7, 0, 18);
    }

    // ---- promise 32

    /** NONE: there are none. */
    private static void costsNone() {
        row("32: no shapes", new long[] {new ShapePour().costs(), on(20, 2, 1, "words a;").costs(), on(20, 2, 1, "").costs()}, -1, -1, -1);
        row("32: one", new long[] {on(20, 2, 1, "box 0 0 1 1;").costs(), on(20, 2, 1, "box 200 0 1 1;words a;").costs()}, 0, 0);
    }

    /** The SHAPE without which most WORDS have a place */
    private static void costsMostWords() {
        due("32: the last", on(10, 1, 1, "box 200 0 1 1;".repeat(5) + "box 5 0 1 5;words aaaa bbbbb;").costs(), 5);
        // Without 0 two find a place, without 1 three.
        due("32: three, not two", on(10, 2, 1, "box 6 0 4 5;box 0 5 10 5;words aaa bb cccc;").costs(), 1);
    }

    /** of like ones the one without which the last LINE that is used is least */
    private static void costsLastLine() {
        due("32: line 0", on(10, 3, 1, "box 0 5 10 5;box 0 0 10 5;words aaa;").costs(), 1);
        due("32: line 1, not 2", on(10, 4, 1, "box 0 10 10 5;box 0 5 10 5;words abcdefghij abcdefghij;").costs(), 1);
    }

    /** of like ones the first / none is less than any */
    private static void costsTheFirst() {
        due("32: all alike", on(10, 2, 1, "box 200 0 1 1;".repeat(6) + "words a;").costs(), 0);
        due("32: two alike", on(10, 3, 1, "box 200 0 1 1;box 0 0 10 5;box 3 20 7 5;words a;").costs(), 1);
        due("32: none in any", on(10, 1, 1, "box 0 0 10 5;box 0 0 10 5;words a;").costs(), 0);
    }

    /** without a SHAPE: the rounds go without it, too */
    private static void costsTheRoundsToo() {
        // Shape 0 pushes its own word by turns, and the other words with it; without it all is still.
        ShapePour x = on(10, 3, 1, "box 0 0 10 5;tie 0 0;box 0 10 10 5;words aaaaaaaaaa bbbbbbbbbb;");
        // Round 0: lines 0, 1. Round 1: box in line 0: 1, none. Round 2: in line 1: 0, none; so as in round 0.
        row("32: placed", new long[] {x.rounds(), x.still(), x.placed(), x.costs()}, 2, 1, 1, 0);
        row("33: pushed", new long[] {x.pushes(0), x.pushes(1)}, 2, 2);
    }

    // ---- promise 33

    /** pushes: -2. */
    private static void pushesRefused() {
        ShapePour x = on(20, 2, 1, "box 8 0 5 5;words a;");
        row("33: shape", new long[] {x.pushes(1), x.pushes(-1), x.pushes(5), x.pushes(6), x.pushes(LEAST), x.pushes(MOST)}, -2, -2, -2, -2, -2, -2);
    }

    /** none */
    private static void pushesNothing() {
        row("33: far off", new long[] {on(10, 2, 1, "box 200 0 5 5;words a b;").pushes(0), on(10, 2, 1, "box 5 5 5 5;words a b;").pushes(0),
            on(10, 2, 1, "box 0 0 5 5;").pushes(0), on(10, 2, 1, "box 0 0 5 5;tie 0 9;words a b;").pushes(0)}, 0, 0, 0, 0);
        // In another slot of the line, yet at the same left.
        due("33: the same left", on(10, 1, 1, "box 3 0 1 5;words aaa bbb;").pushes(0), 0);
    }

    /** (in another LINE, or their left) */
    private static void pushesLinesAndLefts() {
        due("33: their left", on(10, 2, 1, "box 0 0 1 5;words aaa bbb;").pushes(0), 3);
        // All words are as wide as a line: their left stays.
        due("33: another line", on(10, 9, 1, "box 0 5 10 5;words" + " abcdefghij".repeat(4) + ";").pushes(0), 14);
        due("33: by 1", on(10, 2, 1, "box 3 0 2 5;words aaa bbb;").pushes(0), 2);
    }

    /** or have a place otherwise */
    private static void pushesFromAPlace() {
        due("33: none with it", on(10, 1, 1, "box 3 0 7 5;words aaa bbb ccc;").pushes(0), 2);
        due("33: all", on(10, 1, 1, "box 0 0 10 5;words aaa bbb ccc;").pushes(0), 3);
    }

    /** or none, otherwise */
    private static void pushesIntoAPlace() {
        // Without 0: word 0 in line 0, so shape 1 covers line 1, where word 1 would lie. With it both lie in line 1.
        ShapePour x = on(10, 2, 1, "box 6 0 1 5;box 0 5 10 5;box 7 0 3 5;tie 1 0;words aaaaaaa bb;");
        row("33: a place with it alone", new long[] {x.placed(), x.lies(0, 0), x.lies(1, 0), x.pushes(0), x.pushes(1)}, 2, 1, 1, 3, 0);
        ShapePour y = on(10, 2, 1, "box 0 0 10 5;box 0 5 10 5;tie 1 1;words aaaaaaaaaa bbbbbbbbbb;");
        // With 0: word 0 in line 1, word 1 has no place, shape 1 isn't there. Without: words in lines 0, 1; shape 1 in line 2.
        row("33: a place without it alone", new long[] {y.placed(), y.pushes(0), y.pushes(1)}, 1, 3, 0);
        ShapePour z = on(10, 2, 1, "box 6 0 4 5;box 0 5 10 5;tie 1 0;words aaaaaaa bbb;");
        // With 0: word 0 in line 1, 7 and 3 have no room there. Without: word 0 in line 0, shape 1 in line 1.
        row("33: none either way", new long[] {z.placed(), z.pushes(0)}, 1, 1);
    }

    /** as bits: thirty of them */
    private static void pushesAll() {
        ShapePour x = on(60, 1, 1, "box 0 0 1 5;words" + " a".repeat(30) + ";");
        due("33: all thirty", x.pushes(0), (1 << 30) - 1);
        x.hide(29);
        due("33: but the last", x.pushes(0), (1 << 29) - 1);
    }
}
