/**
 * Each sentence about what is seen, chances, the drawer, trays, images and counts (promises 34 to 46)
 * that names a boundary case: one test each, headed by the sentence.
 */
public final class HoldingBoundsTest {
    private static final Check CHECK = new Check();
    private static final int LEAST = Integer.MIN_VALUE;
    private static final int MOST = Integer.MAX_VALUE;
    private static final String LAWFUL = "page wide 200 lines 4 high 5 least 2 ink 3;words a bb ccc;"
        + "wide : if word = 0 then 200 * ink else if word = 1 then ink + 1 else 7 end end;";

    public static void main(String[] args) {
        inksNoSuchTray();
        inksMissing();
        inksOneToEightNumbers();
        inksCantBe();
        inksRefusedInOrder();
        inksOneAtLeastTwoHundredAtMost();
        inksByEachInk();
        inksLeaveAll();
        measureRefused();
        measureNone();
        measureLeast();
        measureTheFirst();
        measureOfHiddenOnes();
        chanceRefused();
        chanceOfNone();
        chanceOfAll();
        chanceOfOthers();
        chanceOfHiddenOnes();
        chanceOfTheSameLotTwice();
        chanceLowestTerms();
        chanceLeavesAll();
        meanRefused();
        meanOfNone();
        meanUpToTheLastOne();
        meanOfTwenty();
        drawerRefused();
        drawerOfNoPlaces();
        drawerInPlaceOfAnother();
        keepRefused();
        keepAnotherKind();
        keepInPlaceOfWhatIsThere();
        keptRefused();
        keptEmpty();
        keptIsACopy();
        drawerStays();
        numbersRefused();
        numbersNoneToForty();
        numbersInPlaceOfAnother();
        writeRefused();
        writeCut();
        writeEachPlace();
        listsRefused();
        listsAsFarAsItHasPlaces();
        listsNone();
        listsCut();
        imageRefused();
        imageInPlaceOfAnother();
        restoreRefused();
        restoreOfANewObject();
        restoreNothingUndone();
        restoreOverAFault();
        restoreLeavesAllElse();
        restoreAgain();
        countNoneForOthers();
        countShapesAndWords();
        countBits();
        countSlots();
        countUndone();
        countLines();
        CHECK.end();
    }

    private static void due(String what, long got, long want) {
        CHECK.due(what, got, want);
    }

    private static void row(String what, long[] got, long... want) {
        CHECK.row(what, got, want);
    }

    private static long[] inksOf(ShapePour x, long... all) {
        Check.tray(x, 0, all);
        return new long[] {x.inks(0), x.measure(0)};
    }

    // ---- promises 34, 35

    /** inks: -2: the TRAY */
    private static void inksNoSuchTray() {
        ShapePour x = Check.on(LAWFUL);
        row("34: tray", new long[] {x.inks(-1), x.inks(4), x.inks(LEAST), x.inks(MOST)}, -2, -2, -2, -2);
    }

    /** inks: -6 */
    private static void inksMissing() {
        ShapePour x = Check.on(LAWFUL);
        row("34: missing", new long[] {x.inks(0), x.inks(1), x.inks(2), x.inks(3)}, -6, -6, -6, -6);
        Check.tray(x, 2, 200);
        row("34: one is there", new long[] {x.inks(1), x.inks(2), x.inks(3)}, -6, 1022, -6);
    }

    /** -4: not 1 to 8 numbers */
    private static void inksOneToEightNumbers() {
        ShapePour x = Check.on(LAWFUL);
        for (int n = 0; n <= 40; n++) {
            long[] all = new long[n];
            java.util.Arrays.fill(all, 2007);
            row("34: " + n, inksOf(x, all), n < 1 || n > 8 ? -4 : 1023, n < 1 || n > 8 ? -4 : 1);
        }
    }

    /** -3: one isn't a WORD's number and 1 to 200 */
    private static void inksCantBe() {
        ShapePour x = Check.on(LAWFUL);
        long[] not = {0, 1000, 2000, 201, 1201, 2201, 999, 1999, 2999, 3000, 3001, 3200, 29001, 30001, -1, -1000, -999, -1001, Long.MAX_VALUE, Long.MIN_VALUE,
            (1L << 32) + 1, (1L << 32) * 1000 + 1, 1L << 63 | 1};
        for (long v : not) {
            row("34: " + v, inksOf(x, v), -3, -3);
            row("34: behind another, " + v, inksOf(x, 2007, v), -3, -3);
            row("34: behind one that no ink tells, " + v, inksOf(x, 2008, v), -3, -3);
        }
        for (long v : new long[] {1, 200, 1001, 1200, 2001, 2200}) {
            due("34: can be " + v, inksOf(x, v)[0] >= 0 ? 1 : 0, 1);
        }
        row("34: no words", inksOf(new ShapePour(), 1), -3, -3);
        ShapePour y = Check.on("page wide 200 lines 4 high 5 least 2 ink 3;words" + " a".repeat(30) + ";");
        row("34: the thirtieth", inksOf(y, 29001), 1023, 0);
        row("34: none behind it", inksOf(y, 30001), -3, -3);
    }

    /** (Of several that which the call tells first) */
    private static void inksRefusedInOrder() {
        ShapePour x = Check.on(LAWFUL);
        row("34: -4 ahead of -3", inksOf(x, -1, -1, -1, -1, -1, -1, -1, -1, -1), -4, -4);
        row("34: -3 of eight", inksOf(x, 2007, 2007, 2007, 2007, 2007, 2007, 2007, -1), -3, -3);
        row("34: -4 without words", inksOf(new ShapePour()), -4, -4);
    }

    /** how WIDE it is: 1 at least, 200 at most */
    private static void inksOneAtLeastTwoHundredAtMost() {
        ShapePour x = Check.on(LAWFUL);
        row("34: 0 is 1", inksOf(x, 1), 1, 0);
        row("34: 1800 is 200", inksOf(x, 200), 1022, 1);
        row("34: both", inksOf(x, 1, 200), 0, -1);
    }

    /** INKS 0 to 9, as bits */
    private static void inksByEachInk() {
        ShapePour x = Check.on(LAWFUL);
        for (int ink = 0; ink <= 9; ink++) {
            row("34: ink " + ink, inksOf(x, 1000 + ink + 1), 1 << ink, 0);
            x.ink(9 - ink);
        }
        row("34: ink 10", inksOf(x, 1011), 0, -1);
        row("34: all", inksOf(x, 2007), 1023, 1);
        row("34: none", inksOf(x, 2006), 0, -1);
    }

    /** SEEN changes nothing */
    private static void inksLeaveAll() {
        ShapePour x = Check.on(LAWFUL);
        inksOf(x, 1005);
        row("34, 35: the ink, the words", new long[] {x.count(2), x.word(1, 1), x.word(0, 1), x.count(6)}, 3, 4, 200, 0);
    }

    /** measure: as inks() */
    private static void measureRefused() {
        ShapePour x = Check.on(LAWFUL);
        row("35: tray", new long[] {x.measure(-1), x.measure(4), x.measure(LEAST), x.measure(MOST), x.measure(0), x.measure(3)}, -2, -2, -2, -2, -6, -6);
    }

    /** NONE: there are none, no WORDS (the codes ahead of it) */
    private static void measureNone() {
        ShapePour x = Check.on(LAWFUL);
        row("35: no ink", inksOf(x, 2008), 0, -1);
        ShapePour y = Check.on("page wide 200 lines 4 high 5 least 2 ink 3;");
        row("35: no words", inksOf(y, 1), -3, -3);
    }

    /** the greatest number of these INKS by which it is as WIDE is least */
    private static void measureLeast() {
        // Word 0: 9 and 1 of all ten; word 1: ten of one; word 2: one of ten.
        row("35: all ten", inksOf(Check.on(LAWFUL), 2007), 1023, 1);
        ShapePour x = Check.on("page wide 200 lines 4 high 5 least 2 ink 3;words a b c;"
            + "wide:if word=0 then if ink<6 then 1 else 2 end else if word=1 then if ink<5 then 1 else 2 end else if ink<4 then 1 else 2 end end end;");
        row("35: of 0 to 3 all are alike", inksOf(x, 1, 1001, 2001), 15, 0);
        // 6 of word 0, 5 and 1 of word 1, 4 and 2 of word 2.
        row("35: of 0 to 5", inksOf(x, 1), 63, 2);
        row("35: of 4 to 9", inksOf(x, 2002), 0b1111110000, 0);
        // Inks 5 to 9: word 0 has 1 and 4, the others 5.
        row("35: of 5 to 9", inksOf(x, 1002), 0b1111100000, 0);
        row("35: of 4 alone", inksOf(x, 2002, 1001), 0b0000010000, 0);
    }

    /** the first */
    private static void measureTheFirst() {
        row("35: two alike", inksOf(Check.on("page wide 200 lines 4 high 5 least 2 ink 3;words a b c d;wide:if word=0 then 9 else if word=3 then 8 else ink end end;"), 9),
            1023, 1);
        row("35: all alike", inksOf(Check.on("page wide 200 lines 4 high 5 least 2 ink 3;words a b c d;"), 1), 1023, 0);
        row("35: the last", inksOf(Check.on("page wide 200 lines 4 high 5 least 2 ink 3;words a b c d;wide:if word=3 then ink+1 else ink end;"), 1), 3, 3);
    }

    /** hidden WORDS are WORDS, too */
    private static void measureOfHiddenOnes() {
        ShapePour x = Check.on(LAWFUL);
        x.hide(1);
        row("35: hidden", inksOf(x, 2007), 1023, 1);
        x.hide(2);
        row("34: hidden", inksOf(x, 2007, 1003), 4, 0);
    }

    // ---- promises 36, 37

    private static long[] chance(ShapePour x, int n) {
        return new long[] {x.chance(n, 0), x.chance(n, 1)};
    }

    private static long[] mean(ShapePour x, int n) {
        return new long[] {x.mean(n, 0), x.mean(n, 1)};
    }

    /** chance: -2: what; -3: n (0 to 2). */
    private static void chanceRefused() {
        ShapePour x = Check.on(LAWFUL);
        row("36: what", new long[] {x.chance(0, 2), x.chance(0, -1), x.chance(0, LEAST), x.chance(0, MOST)}, -2, -2, -2, -2);
        row("36: n", new long[] {x.chance(3, 0), x.chance(-1, 0), x.chance(3, 1), x.chance(LEAST, 0), x.chance(MOST, 1)}, -3, -3, -3, -3, -3);
        row("36: what ahead of n", new long[] {x.chance(3, 2), x.chance(-1, -1)}, -2, -2);
    }

    /** in lowest terms: 0 of 1 */
    private static void chanceOfNone() {
        ShapePour x = Check.on("page wide 10 lines 1 high 5 least 1 ink 0;words" + " aaaaaaaaaa".repeat(10) + ";");
        for (int n = 0; n <= 2; n++) {
            row("36: none of " + n, chance(x, n), 0, 1);
            row("37: one line", mean(x, n), 1, 1);
        }
    }

    /** in lowest terms: 1 of 1 */
    private static void chanceOfAll() {
        ShapePour x = Check.on("page wide 20 lines 1 high 5 least 1 ink 0;words a b c;");
        for (int n = 0; n <= 2; n++) {
            row("36: all of " + n, chance(x, n), 1, 1);
            row("36: without words", chance(new ShapePour(), n), 1, 1);
            row("37: without words", mean(new ShapePour(), n), 0, 1);
        }
        ShapePour y = Check.on("page wide 10 lines 1 high 5 least 11 ink 0;words a;");
        // No slots: all that are shown have a place only if none is shown.
        row("36: no slots", chance(y, 0), 0, 1);
        row("36: no slots", chance(y, 1), 1, 10);
        row("36: no slots", chance(y, 2), 19, 100);
    }

    /** by lot v WORD v is hidden (of others: nothing) */
    private static void chanceOfOthers() {
        // One of eleven must go: words 0 to 9 can be drawn, word 10 can't.
        ShapePour x = Check.on("page wide 20 lines 1 high 5 least 1 ink 0;words" + " a".repeat(11) + ";");
        row("36: eleven", chance(x, 0), 0, 1);
        row("36: eleven", chance(x, 1), 1, 1);
        ShapePour y = Check.on("page wide 20 lines 1 high 5 least 1 ink 0;words" + " a".repeat(10) + " b;wide:if word=10 then 20 else 1 end;");
        row("36: the eleventh stays", chance(y, 1), 0, 1);
        row("36: the eleventh stays", chance(y, 2), 0, 1);
        // Lots 2 to 9 hide nothing.
        ShapePour z = Check.on("page wide 10 lines 1 high 5 least 1 ink 0;words aaaaaa bbbbbb;");
        row("36: two words", chance(z, 1), 1, 5);
        row("36: two words", chance(z, 2), 9, 25);
        // The tenth is hidden by lot 9.
        ShapePour u = Check.on("page wide 20 lines 1 high 5 least 1 ink 0;words" + " a".repeat(10) + ";wide:if word=9 then 20 else 1 end;");
        row("36: lot 9", chance(u, 1), 1, 10);
        row("36: lot 9", chance(u, 2), 19, 100);
    }

    /** of hidden ones: nothing */
    private static void chanceOfHiddenOnes() {
        ShapePour x = Check.on("page wide 10 lines 1 high 5 least 1 ink 0;words aaaaaa bbbbbb cccccc;");
        x.hide(0);
        row("36: one hidden", chance(x, 0), 0, 1);
        row("36: one hidden", chance(x, 1), 1, 5);
        row("36: one hidden", chance(x, 2), 9, 25);
        x.hide(1);
        row("36: two hidden", chance(x, 0), 1, 1);
        row("36: two hidden", chance(x, 2), 1, 1);
        row("37: one is left", mean(x, 0), 1, 1);
        row("37: one is left", mean(x, 1), 9, 10);
        row("37: one is left", mean(x, 2), 81, 100);
    }

    /** n times one of ten lots is drawn: the same one twice, too */
    private static void chanceOfTheSameLotTwice() {
        // Two of three must go: 6 of 100.
        ShapePour x = Check.on("page wide 10 lines 1 high 5 least 1 ink 0;words aaaaaa bbbbbb cccccc;");
        row("36: two of three", chance(x, 2), 3, 50);
        row("36: one won't do", chance(x, 1), 0, 1);
        // All of two are gone if both are drawn: 2 of 100.
        ShapePour y = Check.on("page wide 10 lines 1 high 5 least 1 ink 0;words aaaaaa bbb;");
        row("37: both", mean(y, 2), 49, 50);
    }

    /** in lowest terms */
    private static void chanceLowestTerms() {
        for (int k = 1; k <= 10; k++) {
            // Words 0 to k - 1 are in the way of the others, one of them must go.
            ShapePour x = Check.on("page wide 20 lines 1 high 5 least 1 ink 0;words" + " a".repeat(k) + ";wide:" + (k == 1 ? "21" : "if word < 1 then " + (20 - 2 * k + 3)
                + " else 1 end") + ";");
            // Widths: 23 - 2k and k - 1 of 1, k - 1 between: 21 of 20.
            int below = 10;
            int above = k;
            int common = k == 10 ? 10 : k % 5 == 0 ? 5 : k % 2 == 0 ? 2 : 1;
            row("36: " + k + " of ten", chance(x, 1), above / common, below / common);
        }
    }

    /** CHANCE: nothing is hidden then */
    private static void chanceLeavesAll() {
        ShapePour x = Check.on("page wide 10 lines 2 high 5 least 1 ink 0;words aaaaaa bbbbbb;");
        x.chance(2, 0);
        x.mean(2, 1);
        row("36, 37: all stays", new long[] {x.count(3), x.count(6), x.placed(), x.lies(1, 0)}, 0, 0, 2, 1);
    }

    /** mean: -2: what; -3: n (0 to 2). */
    private static void meanRefused() {
        ShapePour x = Check.on(LAWFUL);
        row("37: what", new long[] {x.mean(0, 2), x.mean(0, -1), x.mean(0, LEAST), x.mean(0, MOST)}, -2, -2, -2, -2);
        row("37: n", new long[] {x.mean(3, 0), x.mean(-1, 0), x.mean(3, 1), x.mean(LEAST, 0), x.mean(MOST, 1)}, -3, -3, -3, -3, -3);
        row("37: what ahead of n", new long[] {x.mean(3, 2), x.mean(-1, -1)}, -2, -2);
    }

    /** How many LINES are used: none */
    private static void meanOfNone() {
        row("37: none has a place", mean(Check.on("page wide 10 lines 2 high 5 least 1 ink 0;words a;wide:11;"), 1), 0, 1);
        ShapePour x = Check.on("page wide 10 lines 2 high 5 least 1 ink 0;words a;");
        x.hide(0);
        row("37: all hidden", mean(x, 2), 0, 1);
    }

    /** (up to the last one) */
    private static void meanUpToTheLastOne() {
        ShapePour x = Check.on("page wide 10 lines 5 high 5 least 1 ink 0;box 0 0 10 15;words a;");
        row("37: those ahead of it, too", mean(x, 0), 4, 1);
        row("37: nine of ten", mean(x, 1), 18, 5);
    }

    /** LINES 1 to 20 */
    private static void meanOfTwenty() {
        ShapePour x = Check.on("page wide 10 lines 20 high 5 least 1 ink 0;words" + " aaaaaaaaaa".repeat(21) + ";");
        row("37: twenty", mean(x, 0), 20, 1);
        row("36: one too many", chance(x, 0), 0, 1);
        row("36: one goes", chance(x, 1), 1, 1);
        row("37: twenty", mean(x, 1), 20, 1);
        // Two alike 10 of 100: 20 lines, else 19.
        row("37: two lots", mean(x, 2), 191, 10);
    }

    // ---- promises 38 to 40

    private static final String SHAPES = "page wide 20 lines 2 high 5 least 2 ink 0;box 1 2 3 4;circle 5 6 7;wedge 8 9 10 11;box 200 400 1 1;circle 0 0 1;";

    /** drawer: -2: the kind; -3, and it stays: n is below 0 or above 9. */
    private static void drawerRefused() {
        ShapePour x = Check.on(SHAPES);
        row("38: kind", new long[] {x.drawer(3, 1), x.drawer(-1, 1), x.drawer(LEAST, 1), x.drawer(MOST, 1)}, -2, -2, -2, -2);
        row("38: n", new long[] {x.drawer(0, 10), x.drawer(0, -1), x.drawer(2, LEAST), x.drawer(2, MOST)}, -3, -3, -3, -3);
        row("38: kind ahead of n", new long[] {x.drawer(3, 10), x.drawer(-1, -1)}, -2, -2);
        due("38: it is missing still", x.kept(0, 0), -6);
        row("38: nine", new long[] {x.drawer(0, 9), x.keep(8, 0), x.kept(8, 0), x.kept(9, 0)}, 0, 0, 1, -7);
        row("38: refused", new long[] {x.drawer(1, 10), x.drawer(1, -1), x.drawer(3, 2)}, -3, -3, -2);
        row("38: it stays", new long[] {x.kept(8, 0), x.kept(8, 1), x.kept(9, 0), x.keep(0, 1), x.keep(0, 3)}, 1, 2, -7, -8, 0);
    }

    /** n places: 0 */
    private static void drawerOfNoPlaces() {
        ShapePour x = Check.on(SHAPES);
        row("38: none", new long[] {x.drawer(2, 0), x.keep(0, 2), x.kept(0, 0), x.keep(0, 0)}, 0, -7, -7, -7);
        row("38: one", new long[] {x.drawer(2, 1), x.keep(1, 2), x.keep(0, 2), x.kept(0, 1)}, 0, -7, 0, 9);
        row("38: on a new object", new long[] {new ShapePour().drawer(0, 0), new ShapePour().drawer(2, 9)}, 0, 0);
    }

    /** (in place of another one): all empty at first */
    private static void drawerInPlaceOfAnother() {
        ShapePour x = Check.on(SHAPES);
        x.drawer(0, 3);
        x.keep(1, 0);
        row("38: the same again", new long[] {x.drawer(0, 3), x.kept(1, 0), x.kept(0, 0), x.kept(2, 0)}, 0, -5, -5, -5);
        x.keep(2, 0);
        row("38: fewer places", new long[] {x.drawer(0, 2), x.kept(2, 0), x.kept(1, 0)}, 0, -7, -5);
        row("38: as many again", new long[] {x.drawer(0, 3), x.kept(2, 0)}, 0, -5);
        row("38: another kind", new long[] {x.drawer(1, 3), x.keep(0, 0), x.keep(0, 1)}, 0, -8, 0);
    }

    /** keep: -2: the SHAPE; -6; -7; -8. (that which the call tells first) */
    private static void keepRefused() {
        ShapePour x = Check.on(SHAPES);
        row("39: shape", new long[] {x.keep(0, 5), x.keep(0, -1), x.keep(0, 6), x.keep(0, LEAST), x.keep(0, MOST)}, -2, -2, -2, -2, -2);
        row("39: missing", new long[] {x.keep(0, 0), x.keep(-1, 0), x.keep(9, 4)}, -6, -6, -6);
        x.drawer(1, 4);
        row("39: place", new long[] {x.keep(4, 1), x.keep(-1, 1), x.keep(LEAST, 1), x.keep(MOST, 1), x.keep(8, 1)}, -7, -7, -7, -7, -7);
        row("39: shape ahead of place", new long[] {x.keep(4, 5), x.keep(-1, -1)}, -2, -2);
        row("39: place ahead of kind", new long[] {x.keep(4, 0), x.keep(-1, 2)}, -7, -7);
        row("39: kind", new long[] {x.keep(0, 0), x.keep(3, 2), x.keep(3, 3)}, -8, -8, -8);
        row("39: nothing is kept", new long[] {x.kept(0, 0), x.kept(3, 0)}, -5, -5);
        due("39: new object", new ShapePour().keep(0, 0), -2);
    }

    /** -8 a SHAPE of another kind */
    private static void keepAnotherKind() {
        for (int kind = 0; kind < 3; kind++) {
            ShapePour x = Check.on(SHAPES);
            x.drawer(kind, 1);
            for (int s = 0; s < 3; s++) {
                row("39: kind " + kind + ", shape " + s, new long[] {x.keep(0, s), x.kept(0, 0)}, s == kind ? 0 : -8, s < kind ? -5 : 1 + (kind == 0 ? 0 : 4 + 3 * (kind - 1)));
            }
        }
    }

    /** (in place of what is there) */
    private static void keepInPlaceOfWhatIsThere() {
        ShapePour x = Check.on(SHAPES);
        x.drawer(0, 2);
        x.keep(0, 0);
        row("39: the one", new long[] {x.kept(0, 0), x.kept(0, 1)}, 1, 2);
        row("39: the other", new long[] {x.keep(0, 3), x.kept(0, 0), x.kept(0, 1), x.kept(1, 0)}, 0, 200, 400, -5);
        row("39: not by one of another kind", new long[] {x.keep(0, 1), x.kept(0, 0)}, -8, 200);
    }

    /** kept: -2: what; -6; -7; -5: it is empty. (that which the call tells first) */
    private static void keptRefused() {
        ShapePour x = Check.on(SHAPES);
        row("40: what", new long[] {x.kept(0, 2), x.kept(0, -1), x.kept(0, LEAST), x.kept(0, MOST), x.kept(-1, 2)}, -2, -2, -2, -2, -2);
        row("40: missing", new long[] {x.kept(0, 0), x.kept(9, 1), x.kept(-1, 0)}, -6, -6, -6);
        x.drawer(1, 4);
        row("40: place", new long[] {x.kept(4, 0), x.kept(-1, 0), x.kept(LEAST, 1), x.kept(MOST, 1)}, -7, -7, -7, -7);
        row("40: what ahead of place", new long[] {x.kept(4, 2), x.kept(0, 2)}, -2, -2);
    }

    /** -5: it is empty (X and Y 0 are not) */
    private static void keptEmpty() {
        ShapePour x = Check.on(SHAPES);
        x.drawer(1, 2);
        row("40: empty", new long[] {x.kept(0, 0), x.kept(0, 1), x.kept(1, 0), x.kept(1, 1)}, -5, -5, -5, -5);
        row("40: at 0", new long[] {x.keep(1, 4), x.kept(1, 0), x.kept(1, 1), x.kept(0, 0)}, 0, 0, 0, -5);
    }

    /** copies of SHAPES, with their X and Y as told and MOVED */
    private static void keptIsACopy() {
        ShapePour x = Check.on("page wide 20 lines 2 high 5 least 2 ink 0;box 1 2 3 4;tie 0 1;words aaaaaaaaaaaa bbbbbbbbbb;");
        x.drawer(0, 2);
        x.move(0, 0, 10);
        x.move(0, 1, 20);
        x.keep(0, 0);
        row("40: moved, not as it is set", new long[] {x.shape(0, 4), x.kept(0, 0), x.kept(0, 1)}, 27, 11, 22);
        x.undo(2);
        x.keep(1, 0);
        row("40: undone since", new long[] {x.kept(0, 0), x.kept(0, 1), x.kept(1, 0), x.kept(1, 1)}, 11, 22, 1, 2);
    }

    /** (THE DRAWER stays as it is by all but its own calls.) */
    private static void drawerStays() {
        ShapePour x = Check.on(SHAPES);
        x.image(0);
        x.drawer(0, 2);
        x.keep(1, 0);
        x.restore(0);
        due("40: an image", x.kept(1, 0), 1);
        Texts.page(x, "page wide 20 lines 2 high 5 least 2 ink 0;");
        row("40: another page", new long[] {x.kept(1, 1), x.keep(0, 0)}, 2, -2);
        Texts.page(x, "#");
        due("40: a fault", x.kept(1, 1), 2);
        Texts.page(x, SHAPES);
        x.day(3, 40);
        x.undo(1);
        row("40: a day, undone", new long[] {x.kept(1, 1), x.kept(0, 1), x.keep(0, 1)}, 2, -5, -8);
    }

    // ---- promises 41 to 43

    /** numbers: -2: no such TRAY, sort; -3, and the TRAY stays: n is below 0 or above 40. */
    private static void numbersRefused() {
        ShapePour x = Check.on(LAWFUL);
        row("41: tray", new long[] {x.numbers(4, 0, 1), x.numbers(-1, 0, 1), x.numbers(LEAST, 0, 1), x.numbers(MOST, 0, 1)}, -2, -2, -2, -2);
        row("41: sort", new long[] {x.numbers(0, 4, 1), x.numbers(0, -1, 1), x.numbers(0, LEAST, 1), x.numbers(0, MOST, 1)}, -2, -2, -2, -2);
        row("41: n", new long[] {x.numbers(0, 0, 41), x.numbers(0, 0, -1), x.numbers(0, 3, LEAST), x.numbers(0, 3, MOST)}, -3, -3, -3, -3);
        row("41: -2 ahead of -3", new long[] {x.numbers(4, 0, 41), x.numbers(0, 4, -1), x.numbers(-1, -1, -1)}, -2, -2, -2);
        due("41: it is missing still", x.lists(0), -6);
        Check.tray(x, 0, 2007);
        row("41: refused", new long[] {x.numbers(0, 0, 41), x.numbers(0, 0, -1), x.numbers(0, 4, 2)}, -3, -3, -2);
        row("41: it stays", new long[] {x.inks(0), x.write(0, 1, 1), x.write(0, 0, Long.MIN_VALUE)}, 1023, -7, Long.MIN_VALUE);
    }

    /** n numbers: 0 to 40 */
    private static void numbersNoneToForty() {
        ShapePour x = new ShapePour();
        for (int tray = 0; tray < 4; tray++) {
            for (int sort = 0; sort < 4; sort++) {
                row("41: none", new long[] {x.numbers(tray, sort, 0), x.write(tray, 0, 1), x.inks(tray), x.lists(tray), x.perform(tray)}, 0, -7, -4, 0, 0);
                row("41: forty", new long[] {x.numbers(tray, sort, 40), x.write(tray, 39, 1), x.write(tray, 40, 1), x.write(tray, 0, 1)}, 0, 1, -7, 1);
            }
        }
    }

    /** all 0 (in place of another one) */
    private static void numbersInPlaceOfAnother() {
        ShapePour x = new ShapePour();
        Check.tray(x, 1, 11, 12, 13);
        due("41: three inks", x.judge(1, 0), -1);
        row("41: all 0", new long[] {x.numbers(1, 3, 3), x.judge(1, 0), x.write(1, 0, 11), x.judge(1, 0), x.write(1, 1, 11), x.judge(1, 0), x.write(1, 2, 11),
            x.judge(1, 0)}, 0, 0, 11, 1, 11, 2, 11, -1);
        row("41: fewer, then more", new long[] {x.numbers(1, 3, 1), x.write(1, 0, 11), x.judge(1, 0), x.numbers(1, 3, 3), x.judge(1, 0)}, 0, 11, -1, 0, 0);
        x.write(1, 0, 11);
        due("41: what stood behind is 0, too", x.judge(1, 0), 1);
        Check.tray(x, 2, 19);
        due("41: others stay", x.judge(2, 0), -1);
        ShapePour y = Check.on("page wide 20 lines 2 high 5 least 1 ink 3;words a;");
        for (int sort = 0; sort < 4; sort++) {
            Check.tray(y, sort, 1);
            // 0 is no word that is 1 to 200 wide; 1 is word 0.
            row("41: 0, not 1", new long[] {y.inks(sort), y.numbers(sort, sort, 1), y.inks(sort), y.write(sort, 0, 1), y.inks(sort)}, 1023, 0, -3, 1, 1023);
        }
    }

    /** write: -2: no such TRAY; -6; -7. */
    private static void writeRefused() {
        ShapePour x = new ShapePour();
        row("42: tray", new long[] {x.write(4, 0, 1), x.write(-1, 0, 1), x.write(LEAST, 0, 1), x.write(MOST, 0, 1)}, -2, -2, -2, -2);
        row("42: missing", new long[] {x.write(0, 0, 1), x.write(3, 0, 1), x.write(0, -1, 1), x.write(0, 40, 1)}, -6, -6, -6, -6);
        x.numbers(0, 3, 2);
        row("42: place", new long[] {x.write(0, 2, 1), x.write(0, -1, 1), x.write(0, 40, 1), x.write(0, LEAST, 1), x.write(0, MOST, 1)}, -7, -7, -7, -7, -7);
        row("42: tray ahead of place", new long[] {x.write(4, 2, 1), x.write(1, 2, 1)}, -2, -6);
        row("42: nothing is written", new long[] {x.write(0, 0, 11), x.judge(0, 0), x.write(0, 1, 11), x.judge(0, 0)}, 11, 1, 11, -1);
    }

    /** cut to its sort: as it is there */
    private static void writeCut() {
        ShapePour x = new ShapePour();
        long[] told = {0, 1, -1, 127, 128, 129, 255, 256, -128, -129, 32767, 32768, 65535, 65536, -32768, -32769, 1L << 31, (1L << 31) - 1, 1L << 32, -(1L << 31),
            -(1L << 31) - 1, (1L << 32) - 1, Long.MAX_VALUE, Long.MIN_VALUE, 0x123456789abcdef0L, 0xfedcba9876543210L};
        for (int sort = 0; sort < 4; sort++) {
            int bits = 8 << sort;
            x.numbers(sort, sort, 1);
            for (long v : told) {
                java.math.BigInteger all = java.math.BigInteger.ONE.shiftLeft(bits);
                java.math.BigInteger cut = java.math.BigInteger.valueOf(v).mod(all);
                if (cut.testBit(bits - 1)) {
                    cut = cut.subtract(all);
                }
                due("42: " + v + " cut to " + bits, x.write(sort, 0, v), cut.longValueExact());
            }
        }
    }

    /** Number i of a TRAY: each for itself */
    private static void writeEachPlace() {
        ShapePour x = new ShapePour();
        for (int tray = 0; tray < 4; tray++) {
            x.numbers(tray, tray, 40);
            for (int i = 0; i < 40; i++) {
                due("42: written", x.write(tray, i, 10), 10);
            }
        }
        for (int tray = 0; tray < 4; tray++) {
            for (int i : new int[] {0, 1, 38, 39}) {
                row("42: this one alone", new long[] {x.write(tray, i, 9), x.judge(tray, 0), x.judge((tray + 1) % 4, 0), x.judge((tray + 3) % 4, 0), x.write(tray, i, 10),
                    x.judge(tray, 0)}, 9, i, -1, -1, 10, -1);
            }
        }
    }

    /** lists: -2: the TRAY; -6. */
    private static void listsRefused() {
        ShapePour x = Check.on(LAWFUL);
        row("43: tray", new long[] {x.lists(-1), x.lists(4), x.lists(LEAST), x.lists(MOST)}, -2, -2, -2, -2);
        row("43: missing", new long[] {x.lists(0), x.lists(1), x.lists(2), x.lists(3)}, -6, -6, -6, -6);
    }

    /** as far as it has places: how many */
    private static void listsAsFarAsItHasPlaces() {
        ShapePour x = Check.on("page wide 10 lines 20 high 5 least 1 ink 0;words" + " aaaaaaaaaa".repeat(20) + ";");
        for (int n = 0; n <= 40; n++) {
            x.numbers(0, 3, n);
            due("43: into " + n, x.lists(0), Math.min(n, 20));
        }
        // Lines 10 to 19 are inks; those behind the words stay 0.
        for (int i = 0; i < 10; i++) {
            x.write(0, i, 15);
        }
        row("43: each line", new long[] {x.judge(0, 0), x.perform(0), x.count(2)}, 20, 20, 9);
        x.numbers(0, 3, 25);
        for (int i = 0; i < 25; i++) {
            x.write(0, i, 16);
        }
        x.lists(0);
        for (int i = 0; i < 10; i++) {
            x.write(0, i, 16);
        }
        row("43: those behind the words stay", new long[] {x.judge(0, 0), x.perform(0), x.count(2)}, -1, 25, 6);
        row("43: no words", new long[] {new ShapePour().numbers(0, 0, 1), listsOf(new ShapePour(), 3)}, 0, 0);
    }

    private static long listsOf(ShapePour x, int n) {
        x.numbers(0, 0, n);
        return x.lists(0);
    }

    /** (NONE: no place) */
    private static void listsNone() {
        ShapePour x = Check.on("page wide 20 lines 2 high 5 least 1 ink 3;words a b;wide:20;");
        // Lines 0 and 1, told as SEEN: 0 and 1 are not 1 to 200 and 1.
        x.numbers(0, 3, 2);
        row("43: lines 0, 1", new long[] {x.lists(0), x.inks(0), x.write(0, 0, 20), x.inks(0)}, 2, -3, 20, 0);
        x.hide(0);
        // NONE, 0.
        row("43: hidden, 0", new long[] {x.lists(0), x.write(0, 1, 20), x.inks(0), x.write(0, 0, 20), x.inks(0)}, 2, 20, -3, 20, 1023);
        ShapePour y = Check.on("page wide 10 lines 20 high 5 least 1 ink 3;words" + " aaaaaaaaaa".repeat(22) + ";");
        Check.tray(y, 1, new long[22]);
        y.lists(1);
        for (int i = 0; i < 10; i++) {
            y.write(1, i, 10);
        }
        row("43: no place for 20, 21", new long[] {y.judge(1, 0), y.write(1, 20, 10), y.judge(1, 0), y.write(1, 21, 10), y.judge(1, 0)}, 20, 10, 21, 10, -1);
    }

    /** come into a TRAY: of any sort */
    private static void listsCut() {
        ShapePour x = Check.on("page wide 10 lines 20 high 5 least 1 ink 0;words" + " aaaaaaaaaa".repeat(20) + ";");
        for (int sort = 0; sort < 4; sort++) {
            x.numbers(sort, sort, 20);
            x.lists(sort);
            for (int i = 0; i < 10; i++) {
                x.write(sort, i, 10);
            }
            row("43: sort " + sort, new long[] {x.judge(sort, 0), x.perform(sort), x.count(2)}, -1, 20, 9);
        }
    }

    // ---- promises 44, 45

    /** image: -2. */
    private static void imageRefused() {
        ShapePour x = Check.on(SHAPES);
        row("44: no such", new long[] {x.image(2), x.image(-1), x.image(LEAST), x.image(MOST)}, -2, -2, -2, -2);
        row("44: none was made", new long[] {x.restore(0), x.restore(1)}, -5, -5);
        row("44: 0 and 1", new long[] {x.image(1), x.restore(0), x.restore(1), x.image(0), x.restore(0)}, 0, -5, 0, 0, 0);
    }

    /** An IMAGE is made: in place of the one there */
    private static void imageInPlaceOfAnother() {
        ShapePour x = Check.on(SHAPES);
        x.image(0);
        x.ink(5);
        x.image(1);
        x.ink(6);
        x.image(0);
        x.ink(7);
        row("44: the later one", new long[] {x.restore(0), x.count(2), x.restore(1), x.count(2)}, 0, 6, 0, 5);
        Texts.page(x, LAWFUL);
        x.image(1);
        row("44: the other page", new long[] {x.restore(0), x.count(0), x.count(1), x.restore(1), x.count(0), x.count(1)}, 0, 5, 0, 0, 0, 3);
    }

    /** restore: -2; -5: none was made. */
    private static void restoreRefused() {
        ShapePour x = Check.on(SHAPES);
        row("45: no such", new long[] {x.restore(2), x.restore(-1), x.restore(LEAST), x.restore(MOST)}, -2, -2, -2, -2);
        row("45: none was made", new long[] {x.restore(0), x.restore(1), new ShapePour().restore(0)}, -5, -5, -5);
        x.ink(4);
        row("45: all stays", new long[] {x.restore(0), x.restore(2), x.count(2), x.count(6), x.undo(1)}, -5, -2, 4, 1, 0);
    }

    /** IMAGES: THE PAGE (without one, too) */
    private static void restoreOfANewObject() {
        ShapePour x = new ShapePour();
        x.image(1);
        x.ink(4);
        Texts.page(x, SHAPES);
        row("45: nothing on it", new long[] {x.restore(1), x.set(0), x.set(1), x.set(2), x.set(3), x.count(0), x.count(1), x.count(2), x.count(5), x.count(8)},
            0, 40, 10, 5, 4, 0, 0, 0, 10, 0);
    }

    /** nothing can be UNDONE behind */
    private static void restoreNothingUndone() {
        ShapePour x = Check.on(SHAPES + "words a b;");
        x.ink(4);
        x.hide(1);
        x.tie(2, 1);
        x.move(0, 0, 1);
        x.move(0, 1, 1);
        x.image(0);
        row("45: none", new long[] {x.restore(0), x.count(6), x.undo(1)}, 0, 0, -3);
        row("45: what a call could bring back", new long[] {x.count(2), x.count(3), x.count(4), x.shape(2, 3), x.shape(0, 1), x.shape(0, 2)}, 4, 2, 4, 1, 2, 3);
        x.ink(5);
        row("45: what is done behind", new long[] {x.undo(1), x.count(2), x.undo(1)}, 0, 4, -3);
    }

    /** all stays with a FAULT: the images, too */
    private static void restoreOverAFault() {
        ShapePour x = Check.on(SHAPES);
        x.image(0);
        Texts.page(x, LAWFUL);
        x.image(1);
        Texts.page(x, "page wide 99 lines 9 high 9 least 9 ink 9;words a b c d e f g;#");
        Texts.page(x, "page wide 99 lines 9 high 9 least 9 ink 9;words a b c d e f g;#");
        row("45: both stay", new long[] {x.count(1), x.restore(0), x.count(0), x.set(0), x.restore(1), x.count(1), x.set(0)}, 3, 0, 5, 20, 0, 3, 200);
        for (int i = 0; i < 6; i++) {
            Texts.page(x, "page wide 99 lines 9 high 9 least 9 ink 9;words" + " a".repeat(i) + ";");
            row("45: over many pages", new long[] {x.count(1), x.restore(i % 2), x.count(i % 2), x.set(0)}, i, 0, i % 2 == 0 ? 5 : 3, i % 2 == 0 ? 20 : 200);
        }
    }

    /** All that is in an IMAGE: no more than that */
    private static void restoreLeavesAllElse() {
        ShapePour x = Check.on(SHAPES);
        x.image(0);
        Check.tray(x, 0, 11);
        x.feed(0x20202020, 0x20202020, 0x20202020, 0x20202020, 0x20202020);
        x.image(1);
        x.restore(0);
        row("45: tape, tray, the other image", new long[] {x.count(7), x.judge(0, 0), x.restore(1), x.page(20), x.fault(1)}, 20, -1, 0, -32, 20);
        x.restore(0);
        due("45: the fault", x.fault(0), 2);
    }

    /** as it was: as often as it is called */
    private static void restoreAgain() {
        ShapePour x = Check.on(SHAPES + "words a b;");
        x.image(0);
        for (int i = 0; i < 3; i++) {
            x.ink(9);
            x.hide(0);
            x.tie(0, 1);
            x.move(0, 0, 5);
            x.move(0, 1, 5);
            row("45: again", new long[] {x.restore(0), x.count(2), x.count(3), x.count(4), x.shape(0, 1), x.shape(0, 2), x.placed()}, 0, 0, 0, 0, 1, 2, 2);
        }
    }

    // ---- promise 46

    /** NONE for others. */
    private static void countNoneForOthers() {
        ShapePour x = Check.on(SHAPES);
        row("46: others", new long[] {x.count(9), x.count(-1), x.count(LEAST), x.count(MOST), x.count(10)}, -1, -1, -1, -1, -1);
    }

    /** 0 SHAPES, 1 WORDS: none, six, thirty */
    private static void countShapesAndWords() {
        ShapePour x = Check.on("page wide 20 lines 2 high 5 least 2 ink 0;" + "circle 5 6 7;".repeat(6) + "words" + " a".repeat(30) + ";");
        row("46: most", new long[] {x.count(0), x.count(1)}, 6, 30);
        x.hide(3);
        row("46: hidden ones are", new long[] {x.count(0), x.count(1)}, 6, 30);
        Texts.page(x, "page wide 20 lines 2 high 5 least 2 ink 0;");
        row("46: none", new long[] {x.count(0), x.count(1)}, 0, 0);
    }

    /** 3 hidden WORDS, as bits, 4 SHAPES that are tied, as bits */
    private static void countBits() {
        ShapePour x = Check.on("page wide 20 lines 2 high 5 least 2 ink 0;" + "circle 5 6 7;".repeat(6) + "words" + " a".repeat(30) + ";tie 0 29;tie 5 0;");
        row("46: tied", new long[] {x.count(4), x.tie(0, -1), x.count(4), x.tie(3, 4), x.count(4)}, 33, 29, 32, -1, 40);
        for (int s = 0; s < 6; s++) {
            x.tie(s, 29 - s);
        }
        row("46: all tied", new long[] {x.count(4), x.hide(29), x.count(4)}, 63, 1, 63);
        row("46: hidden", new long[] {x.count(3), x.hide(0), x.count(3), x.hide(29), x.count(3)}, 1 << 29, 1, (1 << 29) + 1, 0, 1);
        ShapePour y = Check.on("page wide 20 lines 2 high 5 least 2 ink 0;box 0 0 1 1;box 0 0 1 1;tie 1 9;");
        row("46: to a word that isn't", new long[] {y.count(4), y.count(3)}, 2, 0);
    }

    /** 5 SLOTS of all LINES */
    private static void countSlots() {
        row("46: none", new long[] {Check.on("page wide 10 lines 3 high 5 least 11 ink 0;").count(5),
            Check.on("page wide 10 lines 3 high 5 least 1 ink 0;box 0 0 10 15;").count(5)}, 0, 0);
        // Also those behind the last word.
        ShapePour x = Check.on("page wide 10 lines 20 high 5 least 1 ink 0;box 3 0 1 200;words a;");
        row("46: two a line", new long[] {x.count(5), x.slots(19)}, 40, 2);
        x.hide(0);
        due("46: without words", x.count(5), 40);
        ShapePour y = Check.on("page wide 10 lines 20 high 5 least 1 ink 0;box 3 0 1 5;tie 0 0;words a;");
        due("46: those of the last round", y.count(5), 21);
    }

    /** 6 calls that can be UNDONE */
    private static void countUndone() {
        ShapePour x = Check.on(SHAPES);
        for (int i = 0; i < 15; i++) {
            due("46: at most ten", x.count(6), Math.min(i, 10));
            x.ink(i % 10);
        }
        row("46: less", new long[] {x.undo(4), x.count(6), x.undo(6), x.count(6)}, 6, 6, 0, 0);
    }

    /** 8 LINES (page, too) */
    private static void countLines() {
        ShapePour x = Check.on("page wide 10 lines 20 high 5 least 1 ink 0;");
        due("46: page alone", x.count(8), 1);
        Texts.page(x, SHAPES + "words;words;tie 0 0;");
        row("46: nine", new long[] {x.count(8), x.image(0)}, 9, 0);
        Texts.page(x, "page wide 10 lines 20 high 5 least 1 ink 0;words;#");
        due("46: a fault", x.count(8), 9);
        Texts.page(x, LAWFUL);
        row("46: three, by an image nine", new long[] {x.count(8), x.restore(0), x.count(8)}, 3, 0, 9);
    }
}
