/**
 * Each sentence about deeds, undoing and days, and of promises 12 to 19, that names a boundary case:
 * one test each, headed by the sentence.
 */
public final class DeedBoundsTest {
    private static final Check CHECK = new Check();
    private static final int LEAST = Integer.MIN_VALUE;
    private static final int MOST = Integer.MAX_VALUE;
    private static final String PAGE = "page wide 20 lines 4 high 5 least 2 ink 3;box 100 200 3 5;circle 200 400 9;wedge 0 0 1 1;words aaaa bbbb cccc dddd eeee;";

    public static void main(String[] args) {
        moveAnswersAsItIsThen();
        moveToTheBounds();
        moveNoSuch();
        moveNoMoreThanAHundred();
        moveOutOfBounds();
        moveWhyOneFirst();
        movedYOfATiedShape();
        tieAnswersTheOneItWas();
        tieNoSuch();
        hideAnswersIfHidden();
        hideNoSuch();
        inkAnswersWhatItWas();
        inkNoSuch();
        nothingCanBeUndone();
        undoNoSuchNumber();
        undoMoreThanCanBe();
        undoTenAtMost();
        undoTheLatestFirst();
        undoEachAsAWhole();
        undoneIsGone();
        refusedOnesAreNotUndone();
        undoLeavesAllElse();
        judgeRefused();
        judgeEmptyTray();
        judgeTheFirstThatCantBe();
        judgeChangesNothing();
        judgeNoLine();
        codesOfInks();
        codesOfWords();
        codesOfTies();
        codesOfMoves();
        otherCodes();
        codesCutToASort();
        eachCode();
        performRefused();
        performTillOneCantBe();
        performNone();
        performFullTray();
        dayRefused();
        dayOfOne();
        dayBySeeds();
        dayLeavesOutWhatCantBe();
        dayOnANewObject();
        CHECK.end();
    }

    private static void due(String what, long got, long want) {
        CHECK.due(what, got, want);
    }

    private static void row(String what, long[] got, long... want) {
        CHECK.row(what, got, want);
    }

    // ---- promises 12 to 15

    /** move: as it is then (axis 0: X, 1: Y) */
    private static void moveAnswersAsItIsThen() {
        ShapePour x = Check.on(PAGE);
        row("12: then", new long[] {x.move(0, 0, 7), x.move(0, 1, 7), x.move(0, 0, -1), x.move(0, 1, -100), x.move(0, 0, 0)}, 107, 207, 106, 107, 106);
        row("6: moved", new long[] {x.shape(0, 1), x.shape(0, 2), x.shape(0, 4), x.shape(1, 1), x.shape(2, 1)}, 106, 107, 107, 200, 0);
    }

    /** X 0 to 200, Y 0 to 400; by -100 to 100 */
    private static void moveToTheBounds() {
        ShapePour x = Check.on(PAGE);
        row("12: X", new long[] {x.move(0, 0, 100), x.move(0, 0, -100), x.move(0, 0, -100), x.move(0, 0, 100)}, 200, 100, 0, 100);
        row("12: Y", new long[] {x.move(0, 1, 100), x.move(0, 1, 100), x.move(1, 1, -100), x.move(2, 1, 100)}, 300, 400, 300, 100);
        row("12: Y", new long[] {x.move(2, 1, -100), x.move(2, 1, 1), x.move(2, 1, -1), x.move(1, 1, 99), x.move(1, 1, 1)}, 0, 1, 0, 399, 400);
    }

    /** 1 no such SHAPE, axis */
    private static void moveNoSuch() {
        ShapePour x = Check.on(PAGE);
        row("12: shape", new long[] {x.move(3, 0, 0), x.move(-1, 0, 0), x.move(5, 0, 0), x.move(6, 0, 0), x.move(LEAST, 0, 0), x.move(MOST, 0, 0)},
            -11, -11, -11, -11, -11, -11);
        row("12: axis", new long[] {x.move(0, 2, 0), x.move(0, -1, 0), x.move(0, LEAST, 0), x.move(0, MOST, 0)}, -11, -11, -11, -11);
        row("12: new object", new long[] {new ShapePour().move(0, 0, 0), new ShapePour().move(0, 1, 1)}, -11, -11);
        row("12: all stays", new long[] {x.shape(0, 1), x.shape(0, 2), x.count(6)}, 100, 200, 0);
    }

    /** 1 by no -100 to 100 */
    private static void moveNoMoreThanAHundred() {
        ShapePour x = Check.on(PAGE);
        row("12: by", new long[] {x.move(0, 1, 101), x.move(0, 1, -101), x.move(0, 1, LEAST), x.move(0, 1, MOST), x.move(0, 0, 101), x.move(0, 0, -101)},
            -11, -11, -11, -11, -11, -11);
        row("12: by", new long[] {x.move(0, 1, 100), x.move(0, 1, -100)}, 300, 200);
    }

    /** 2 X or Y would be out of its bounds. */
    private static void moveOutOfBounds() {
        ShapePour x = Check.on(PAGE);
        row("12: out", new long[] {x.move(1, 0, 1), x.move(1, 1, 1), x.move(2, 0, -1), x.move(2, 1, -1), x.move(1, 0, 100), x.move(2, 1, -100)},
            -12, -12, -12, -12, -12, -12);
        x.move(0, 0, 1);
        row("12: by one", new long[] {x.move(0, 0, 100), x.move(0, 0, 99), x.move(0, 0, 1)}, -12, 200, -12);
        row("12: all stays", new long[] {x.shape(1, 1), x.shape(1, 2), x.shape(2, 1), x.shape(2, 2), x.count(6)}, 200, 400, 0, 0, 2);
    }

    /** Why not: 1 ahead of 2 */
    private static void moveWhyOneFirst() {
        ShapePour x = Check.on(PAGE);
        row("12: both", new long[] {x.move(1, 0, 101), x.move(2, 1, -101), x.move(1, 0, MOST), x.move(2, 0, LEAST)}, -11, -11, -11, -11);
    }

    /** To MOVE a SHAPE: its X or its Y so much more: also of one that is tied, hidden with its word */
    private static void movedYOfATiedShape() {
        ShapePour x = Check.on("page wide 10 lines 4 high 5 least 2 ink 3;box 200 0 3 5;tie 0 1;words aaaaaa bbbbbb;");
        row("12: tied", new long[] {x.shape(0, 2), x.shape(0, 4), x.move(0, 1, 6), x.shape(0, 2), x.shape(0, 4)}, 0, 5, 6, 6, 11);
        x.hide(1);
        row("12: not there", new long[] {x.move(0, 1, 1), x.shape(0, 2), x.shape(0, 4), x.move(0, 1, -8)}, 7, 7, -1, -12);
        x.tie(0, -1);
        due("6: as moved", x.shape(0, 4), 7);
        // By its Y as told, not by where it is set.
        ShapePour y = Check.on("page wide 10 lines 20 high 20 least 2 ink 3;box 200 400 3 5;tie 0 1;words aaaaaa bbbbbb;");
        row("12: at 400", new long[] {y.shape(0, 4), y.move(0, 1, 1), y.move(0, 1, -1)}, 420, -12, 399);
    }

    /** tie (0 to 29; NONE: to none): the one it was tied to (NONE) */
    private static void tieAnswersTheOneItWas() {
        ShapePour x = Check.on(PAGE);
        row("13: was", new long[] {x.tie(2, 0), x.tie(2, 29), x.tie(2, 29), x.tie(2, 4), x.tie(2, -1), x.tie(2, -1), x.tie(2, 5)}, -1, 0, 29, 29, 4, -1, -1);
        row("6: is", new long[] {x.shape(2, 3), x.shape(0, 3), x.count(4)}, 5, -1, 4);
        ShapePour y = Check.on("page wide 10 lines 4 high 5 least 2 ink 3;box 200 0 3 5;");
        row("13: no words", new long[] {y.tie(0, 0), y.tie(0, 29), y.shape(0, 3), y.shape(0, 4)}, -1, 0, 29, -1);
    }

    /** tie: -11. */
    private static void tieNoSuch() {
        ShapePour x = Check.on(PAGE);
        row("13: word", new long[] {x.tie(0, 30), x.tie(0, -2), x.tie(0, 99), x.tie(0, LEAST), x.tie(0, MOST)}, -11, -11, -11, -11, -11);
        row("13: shape", new long[] {x.tie(3, 0), x.tie(-1, 0), x.tie(6, -1), x.tie(LEAST, 0), x.tie(MOST, -1)}, -11, -11, -11, -11, -11);
        row("13: new object", new long[] {new ShapePour().tie(0, 0), new ShapePour().tie(0, -1)}, -11, -11);
        row("13: all stays", new long[] {x.count(4), x.count(6)}, 0, 0);
    }

    /** hide: 1 if it is hidden then, else 0 */
    private static void hideAnswersIfHidden() {
        ShapePour x = Check.on("page wide 200 lines 1 high 1 least 1 ink 0;words" + " a".repeat(30) + ";");
        for (int w = 0; w < 30; w++) {
            row("14: " + w, new long[] {x.hide(w), x.word(w, 2), x.count(3), x.placed()}, 1, 1, (1L << w + 1) - 1, 29 - w);
        }
        for (int w = 0; w < 30; w++) {
            row("14: " + w, new long[] {x.hide(w), x.word(w, 2), x.placed()}, 0, 0, w + 1);
        }
    }

    /** hide: -11. */
    private static void hideNoSuch() {
        ShapePour x = Check.on(PAGE);
        row("14: word", new long[] {x.hide(5), x.hide(-1), x.hide(29), x.hide(30), x.hide(32), x.hide(LEAST), x.hide(MOST)}, -11, -11, -11, -11, -11, -11, -11);
        row("14: all stays", new long[] {x.count(3), x.count(6), new ShapePour().hide(0)}, 0, 0, -11);
    }

    /** Another INK (0 to 9): what it was. */
    private static void inkAnswersWhatItWas() {
        ShapePour x = Check.on(PAGE);
        row("15: was", new long[] {x.ink(0), x.ink(9), x.ink(9), x.ink(1), x.count(2)}, 3, 0, 9, 9, 1);
        ShapePour y = new ShapePour();
        row("15: on a new object", new long[] {y.ink(9), y.count(2), y.undo(1), y.count(2)}, 0, 9, 0, 0);
    }

    /** ink: -11. */
    private static void inkNoSuch() {
        ShapePour x = Check.on(PAGE);
        row("15: ink", new long[] {x.ink(10), x.ink(-1), x.ink(LEAST), x.ink(MOST)}, -11, -11, -11, -11);
        row("15: all stays", new long[] {x.count(2), x.count(6)}, 3, 0);
    }

    // ---- promise 16

    /** undo: -3: more than can be: none can */
    private static void nothingCanBeUndone() {
        row("16: new object", new long[] {new ShapePour().undo(1), new ShapePour().undo(10)}, -3, -3);
        ShapePour x = Check.on(PAGE);
        due("16: a page", x.undo(1), -3);
        x.ink(1);
        x.image(0);
        x.restore(0);
        due("16: an image", x.undo(1), -3);
    }

    /** -3: n (1 to 10) */
    private static void undoNoSuchNumber() {
        ShapePour x = Check.on(PAGE);
        for (int i = 0; i < 12; i++) {
            x.ink(i % 10);
        }
        row("16: n", new long[] {x.undo(0), x.undo(-1), x.undo(11), x.undo(12), x.undo(LEAST), x.undo(MOST)}, -3, -3, -3, -3, -3, -3);
        row("16: all stays", new long[] {x.count(6), x.count(2)}, 10, 1);
    }

    /** -3: more than can be */
    private static void undoMoreThanCanBe() {
        ShapePour x = Check.on(PAGE);
        for (int n = 1; n <= 10; n++) {
            x.ink(n % 10);
            row("16: " + n, new long[] {x.count(6), x.undo(n + 1), x.count(2)}, n, -3, n % 10);
        }
        row("16: all ten", new long[] {x.undo(10), x.count(2), x.undo(1)}, 0, 3, -3);
    }

    /** 10 at most (eldest are forgotten) */
    private static void undoTenAtMost() {
        ShapePour x = Check.on(PAGE);
        for (int n = 0; n < 11; n++) {
            x.move(0, 0, 1);
        }
        row("16: eleven moves", new long[] {x.count(6), x.undo(10), x.shape(0, 1), x.undo(1)}, 10, 0, 101, -3);
        for (int n = 0; n < 35; n++) {
            x.move(0, 0, 1);
        }
        row("16: many", new long[] {x.count(6), x.undo(3), x.shape(0, 1)}, 10, 7, 133);
        x.move(0, 1, 1);
        x.move(0, 1, 1);
        row("16: nine", new long[] {x.count(6), x.undo(9), x.shape(0, 1), x.shape(0, 2), x.undo(1)}, 9, 0, 126, 200, -3);
    }

    /** the latest first */
    private static void undoTheLatestFirst() {
        ShapePour x = Check.on(PAGE);
        x.move(0, 0, 1);
        x.move(1, 1, -2);
        x.tie(2, 3);
        x.hide(4);
        x.ink(8);
        row("16: the ink", new long[] {x.undo(1), x.count(2), x.count(3)}, 4, 3, 16);
        row("16: hidden words", new long[] {x.undo(1), x.count(3), x.count(4)}, 3, 0, 4);
        row("16: ties", new long[] {x.undo(1), x.count(4), x.shape(2, 3), x.shape(1, 2)}, 2, 0, -1, 398);
        row("16: Y", new long[] {x.undo(1), x.shape(1, 2), x.shape(0, 1)}, 1, 400, 101);
        row("16: X", new long[] {x.undo(1), x.shape(0, 1), x.undo(1)}, 0, 100, -3);
    }

    /** Calls that did some can be UNDONE each as a whole */
    private static void undoEachAsAWhole() {
        ShapePour x = Check.on(PAGE);
        Check.tray(x, 0, 19, 100, 1002, 10107, 20107);
        row("16: a tray", new long[] {x.perform(0), x.count(6), x.undo(1)}, 5, 1, 0);
        row("16: all of it", new long[] {x.count(2), x.count(3), x.count(4), x.shape(0, 1), x.shape(0, 2)}, 3, 0, 0, 100, 200);
        row("16: a day", new long[] {x.day(5, 40) > 1 ? 1 : 0, x.count(6), x.undo(1)}, 1, 1, 0);
        row("16: all of it", new long[] {x.count(2), x.count(3), x.count(4), x.shape(0, 1), x.shape(0, 2), x.shape(1, 1), x.shape(2, 2)},
            3, 0, 0, 100, 200, 200, 0);
    }

    /** how many still can be: what was undone can't be had again, nor undone twice */
    private static void undoneIsGone() {
        ShapePour x = Check.on(PAGE);
        x.ink(4);
        x.ink(5);
        x.ink(6);
        row("16: two", new long[] {x.undo(2), x.count(2), x.count(6)}, 1, 4, 1);
        x.ink(7);
        row("16: another", new long[] {x.count(6), x.undo(1), x.count(2), x.undo(1), x.count(2)}, 2, 1, 4, 0, 3);
    }

    /** Refused calls change nothing: there is nothing of them to undo */
    private static void refusedOnesAreNotUndone() {
        ShapePour x = Check.on(PAGE);
        x.ink(4);
        x.move(1, 0, 1);
        x.move(9, 0, 1);
        x.tie(0, 30);
        x.hide(5);
        x.ink(10);
        x.undo(2);
        x.perform(0);
        x.day(1, 0);
        Check.tray(x, 0, 20);
        x.perform(0);
        Check.tray(x, 0);
        x.perform(0);
        row("16: the ink alone", new long[] {x.count(6), x.undo(1), x.count(2)}, 1, 0, 3);
    }

    /** UNDONE: X, Y, ties, hidden WORDS, the INK: all else stays */
    private static void undoLeavesAllElse() {
        ShapePour x = Check.on(PAGE);
        x.drawer(0, 1);
        x.ink(4);
        x.move(0, 0, 1);
        x.keep(0, 0);
        Check.tray(x, 2, 4);
        x.feed(1, 2, 3, 4, 5);
        x.image(1);
        row("16: undone", new long[] {x.undo(2), x.count(2)}, 0, 3);
        row("16: drawer, tray, tape, image", new long[] {x.kept(0, 0), x.inks(2), x.count(7), x.restore(1), x.count(2), x.shape(0, 1)}, 101, 1023, 20, 0, 4, 101);
    }

    // ---- promise 17

    /** judge: -2: the TRAY, what; -6. */
    private static void judgeRefused() {
        ShapePour x = Check.on(PAGE);
        row("17: tray", new long[] {x.judge(-1, 0), x.judge(4, 0), x.judge(LEAST, 0), x.judge(MOST, 0)}, -2, -2, -2, -2);
        row("17: what, ahead of -6", new long[] {x.judge(0, -1), x.judge(0, 4), x.judge(0, LEAST), x.judge(0, MOST)}, -2, -2, -2, -2);
        row("17: missing", new long[] {x.judge(0, 0), x.judge(1, 1), x.judge(2, 2), x.judge(3, 3)}, -6, -6, -6, -6);
        Check.tray(x, 3, 10);
        row("17: there", new long[] {x.judge(3, 0), x.judge(3, 4), x.judge(3, -1), x.judge(2, 0)}, -1, -2, -2, -6);
    }

    /** 0 to 40 numbers: of none, all can be */
    private static void judgeEmptyTray() {
        ShapePour x = Check.on(PAGE);
        Check.tray(x, 0);
        row("17: as it is", new long[] {x.judge(0, 0), x.judge(0, 1), x.judge(0, 2), x.judge(0, 3)}, -1, 0, 5, 1);
        ShapePour y = new ShapePour();
        Check.tray(y, 0);
        row("17: nothing on it", new long[] {y.judge(0, 0), y.judge(0, 1), y.judge(0, 2), y.judge(0, 3)}, -1, 0, 0, -1);
    }

    /** the first place that can't be (NONE), why (0) */
    private static void judgeTheFirstThatCantBe() {
        ShapePour x = Check.on(PAGE);
        Check.tray(x, 0, 20, 100);
        row("17: the first", new long[] {x.judge(0, 0), x.judge(0, 1), x.judge(0, 2)}, 0, 1, 5);
        Check.tray(x, 0, 100, 11101, 20);
        row("17: the second", new long[] {x.judge(0, 0), x.judge(0, 1), x.judge(0, 2)}, 1, 2, 4);
        long[] forty = new long[40];
        java.util.Arrays.fill(forty, 13);
        forty[39] = 9;
        Check.tray(x, 0, forty);
        row("17: the fortieth", new long[] {x.judge(0, 0), x.judge(0, 1)}, 39, 1);
        x.write(0, 39, 12);
        row("17: none", new long[] {x.judge(0, 0), x.judge(0, 1)}, -1, 0);
        // One that can be because of those ahead, one that can't because of them.
        Check.tray(x, 0, 11099, 11101);
        row("17: 199, then 200", new long[] {x.judge(0, 0), x.judge(0, 1)}, -1, 0);
        Check.tray(x, 0, 11099, 11101, 11101);
        row("17: then 201", new long[] {x.judge(0, 0), x.judge(0, 1)}, 2, 2);
    }

    /** judged as if done */
    private static void judgeChangesNothing() {
        ShapePour x = Check.on(PAGE);
        Check.tray(x, 0, 12, 100, 1001, 10099, 20099);
        row("17: judged", new long[] {x.judge(0, 0), x.judge(0, 2), x.judge(0, 3), x.judge(0, 1)}, -1, 4, 0, 0);
        row("17: not done", new long[] {x.count(2), x.count(3), x.count(4), x.count(6), x.shape(0, 1), x.shape(0, 2), x.placed(), x.last()},
            3, 0, 0, 0, 100, 200, 5, 1);
        row("18: done", new long[] {x.perform(0), x.placed(), x.last()}, 5, 4, 0);
    }

    /** the last LINE that is used then (NONE: none) */
    private static void judgeNoLine() {
        ShapePour x = Check.on(PAGE);
        Check.tray(x, 0, 100, 101, 102, 103, 104);
        row("17: all hidden", new long[] {x.judge(0, 2), x.judge(0, 3)}, 0, -1);
        Check.tray(x, 0, 100, 101, 102, 103);
        row("17: one left", new long[] {x.judge(0, 2), x.judge(0, 3)}, 1, 0);
    }

    private static void why(ShapePour x, long deed, int want) {
        Check.tray(x, 1, deed);
        row("17: the deed " + deed, new long[] {x.judge(1, 0), x.judge(1, 1)}, want == 0 ? -1 : 0, want);
    }

    /** 10 to 19: INK v - 10 */
    private static void codesOfInks() {
        ShapePour x = Check.on(PAGE);
        why(x, 9, 1);
        why(x, 20, 1);
        for (int v = 10; v <= 19; v++) {
            why(x, v, 0);
            row("18: ink", new long[] {x.perform(1), x.count(2)}, 1, v - 10);
        }
    }

    /** 100 to 129: WORD v - 100 is hidden, or shown */
    private static void codesOfWords() {
        ShapePour x = Check.on(PAGE);
        why(x, 99, 1);
        why(x, 130, 1);
        for (int v = 100; v <= 129; v++) {
            why(x, v, v <= 104 ? 0 : 1);
            due("18: word", x.perform(1), v <= 104 ? 1 : 0);
        }
        row("18: hidden, then one is shown", new long[] {x.count(3), x.count(6)}, 31, 5);
        why(x, 102, 0);
        row("18: shown", new long[] {x.perform(1), x.count(3)}, 1, 27);
    }

    /** 1000 to 1599: SHAPE (v - 1000) by 100 is tied to WORD v modulo 100 (99: none; others: 1 above 29) */
    private static void codesOfTies() {
        String six = "page wide 20 lines 4 high 5 least 2 ink 3;" + "box 100 100 1 1;".repeat(6);
        ShapePour x = Check.on(six);
        why(x, 999, 1);
        why(x, 1600, 1);
        for (int s = 0; s < 6; s++) {
            for (int w : new int[] {0, 1, 29, 30, 31, 98, 99}) {
                int v = 1000 + 100 * s + w;
                ShapePour y = Check.on(six + "tie " + s + " 7;");
                why(y, v, w > 29 && w < 99 ? 1 : 0);
                row("18: tied", new long[] {y.perform(1), y.shape(s, 3)}, w > 29 && w < 99 ? 0 : 1, w == 99 ? -1 : w > 29 ? 7 : w);
            }
        }
        ShapePour y = Check.on(PAGE);
        why(y, 1229, 0);
        why(y, 1300, 1);
        why(y, 1399, 1);
        why(y, 1330, 1);
    }

    /** 10000 to 15999: X of SHAPE (v - 10000) by 1000 is the rest less 100 more; 20000 to 25999: so its Y */
    private static void codesOfMoves() {
        String six = "page wide 20 lines 4 high 5 least 2 ink 3;" + "box 100 100 1 1;".repeat(6);
        ShapePour x = Check.on(six);
        for (int v : new int[] {9999, 16000, 19999, 26000}) {
            why(x, v, 1);
        }
        for (int s = 0; s < 6; s++) {
            for (int rest : new int[] {0, 1, 100, 199, 200, 201, 999}) {
                for (int axis = 0; axis < 2; axis++) {
                    ShapePour y = Check.on(six);
                    why(y, 10000 + 10000 * axis + 1000 * s + rest, rest > 200 ? 1 : 0);
                    row("18: moved", new long[] {y.perform(1), y.shape(s, 1 + axis), y.shape(s, 2 - axis)}, rest > 200 ? 0 : 1, rest > 200 ? 100 : rest, 100);
                }
            }
        }
        ShapePour z = Check.on(PAGE);
        // X of shape 1 is 200, its Y 400; of shape 2 both are 0; of shape 0 X is 100.
        long[] two = {11101, 11200, 21101, 21200, 12099, 12000, 22099, 22000};
        for (long v : two) {
            why(z, v, 2);
        }
        long[] one = {11201, 21201, 13000, 13100, 23100, 15999, 25999, 12999};
        for (long v : one) {
            why(z, v, 1);
        }
        long[] none = {11000, 11100, 21000, 12200, 22200, 12100, 10000, 10200, 20000, 20200};
        for (long v : none) {
            why(z, v, 0);
        }
    }

    /** others: 1 */
    private static void otherCodes() {
        ShapePour x = Check.on(PAGE);
        long[] others = {0, -1, 1, 9, 20, 50, 99, 130, 500, 999, 1600, 5000, 9999, 16000, 18000, 19999, 26000, 30000, 1000000, Long.MAX_VALUE, Long.MIN_VALUE,
            (1L << 32) + 10, (1L << 32) + 100, -10, -100, -1000, -10000, (1L << 40) + 20100};
        for (long v : others) {
            why(x, v, 1);
            due("18: can't be", x.perform(1), 0);
        }
        due("16: nothing to undo", x.count(6), 0);
    }

    /** All numbers from below 0 to beyond 25999, on a page with three shapes, five words. */
    private static void eachCode() {
        int[] atX = {100, 200, 0};
        int[] atY = {200, 400, 0};
        ShapePour x = null;
        for (int v = -1200; v <= 27200; v++) {
            if (v % 100 == 0) {
                x = Check.on(PAGE);
                x.numbers(0, 3, 1);
            }
            int want = 1;
            int rest = v % 1000 - 100;
            if (v >= 10 && v <= 19 || v >= 100 && v <= 104) {
                want = 0;
            } else if (v >= 1000 && v < 1300 && (v % 100 < 30 || v % 100 == 99)) {
                want = 0;
            } else if (v >= 10000 && v < 13000 && rest <= 100) {
                int to = atX[v / 1000 - 10] + rest;
                want = to < 0 || to > 200 ? 2 : 0;
            } else if (v >= 20000 && v < 23000 && rest <= 100) {
                int to = atY[v / 1000 - 20] + rest;
                want = to < 0 || to > 400 ? 2 : 0;
            }
            x.write(0, 0, v);
            due("17: why not " + v, x.judge(0, 1), want);
            due("17: where " + v, x.judge(0, 0), want == 0 ? -1 : 0);
        }
    }

    /** numbers of 8 bits (sort 0), 16 (1), 32 (2), 64 (3): the deed is the number as it is there */
    private static void codesCutToASort() {
        ShapePour x = Check.on(PAGE);
        long far = (1L << 32) + 10;
        for (int sort = 0; sort < 4; sort++) {
            x.numbers(0, sort, 1);
            row("42, 17: cut to 10", new long[] {x.write(0, 0, far), x.judge(0, 1)}, sort < 3 ? 10 : far, sort < 3 ? 0 : 1);
        }
        x.numbers(0, 0, 1);
        // 128 is below 0 in 8 bits, 25,999 - 65,536 is in 16 bits what it was.
        row("42, 17: 8 bits", new long[] {x.write(0, 0, 128), x.judge(0, 1), x.write(0, 0, 256 + 104), x.judge(0, 1)}, -128, 1, 104, 0);
        x.numbers(0, 1, 1);
        row("42, 17: 16 bits", new long[] {x.write(0, 0, 20100 - 65536), x.judge(0, 1), x.write(0, 0, 32768), x.judge(0, 1)}, 20100, 0, -32768, 1);
    }

    // ---- promise 18

    /** perform: -2; -6. */
    private static void performRefused() {
        ShapePour x = Check.on(PAGE);
        row("18: tray", new long[] {x.perform(-1), x.perform(4), x.perform(LEAST), x.perform(MOST)}, -2, -2, -2, -2);
        row("18: missing", new long[] {x.perform(0), x.perform(1), x.perform(2), x.perform(3)}, -6, -6, -6, -6);
    }

    /** They are done, till one can't be: how many. */
    private static void performTillOneCantBe() {
        ShapePour x = Check.on(PAGE);
        Check.tray(x, 0, 12, 100, 105, 101);
        row("18: two", new long[] {x.perform(0), x.count(2), x.count(3), x.count(6)}, 2, 2, 1, 1);
        row("18: two again", new long[] {x.perform(0), x.count(3), x.count(6)}, 2, 0, 2);
    }

    /** Calls that did some: one that did none can't be undone */
    private static void performNone() {
        ShapePour x = Check.on(PAGE);
        Check.tray(x, 0, 105, 12);
        row("18: the first can't be", new long[] {x.perform(0), x.count(2), x.count(6)}, 0, 3, 0);
        Check.tray(x, 0);
        row("18: no deeds", new long[] {x.perform(0), x.count(6)}, 0, 0);
    }

    /** 0 to 40 numbers */
    private static void performFullTray() {
        ShapePour x = Check.on(PAGE);
        long[] forty = new long[40];
        for (int i = 0; i < 40; i++) {
            forty[i] = 10 + i % 10;
        }
        forty[39] = 14;
        Check.tray(x, 3, forty);
        row("18: forty", new long[] {x.perform(3), x.count(2), x.count(6), x.undo(1), x.count(2)}, 40, 4, 1, 0, 3);
    }

    // ---- promise 19

    /** day: -3: how many times (1 to 40). */
    private static void dayRefused() {
        ShapePour x = Check.on(PAGE);
        row("19: times", new long[] {x.day(1, 0), x.day(1, -1), x.day(1, 41), x.day(1, LEAST), x.day(1, MOST)}, -3, -3, -3, -3, -3);
        row("19: all stays", new long[] {x.count(2), x.count(3), x.count(6), x.shape(0, 1)}, 3, 0, 0, 100);
        row("19: 1, 40", new long[] {x.day(1, 1) < 0 ? 1 : 0, x.day(1, 40) < 0 ? 1 : 0}, 0, 0);
    }

    private static long drawn;

    /** x becomes 1103515245 x + 12345 (an int), it is x >>> 16: here in longs without a wrap-around. */
    private static int draw(int modulo) {
        drawn = (1103515245L * drawn + 12345) & 0xffffffffL;
        return (int) ((drawn >> 16) % modulo);
    }

    private static int told() {
        int kind = draw(5);
        if (kind == 0) {
            return 10 + draw(10);
        }
        if (kind == 1) {
            return 100 + draw(30);
        }
        int s = draw(6);
        return kind == 2 ? 1000 + 100 * s + draw(30) : 10000 * (kind - 2) + 1000 * s + draw(201);
    }

    /** One DEED: each of the five kinds, by seeds that draw them. */
    private static void dayOfOne() {
        int[] seen = new int[5];
        for (int seed = 0; seed < 60; seed++) {
            drawn = seed;
            int deed = told();
            seen[deed < 20 ? 0 : deed < 130 ? 1 : deed < 1600 ? 2 : deed < 16000 ? 3 : 4]++;
            ShapePour x = Check.on(PAGE);
            ShapePour y = Check.on(PAGE);
            Check.tray(y, 0, deed);
            same("19: seed " + seed + ", the deed " + deed, x, x.day(seed, 1), y, y.perform(0));
        }
        for (int kind = 0; kind < 5; kind++) {
            due("19: kind " + kind + " was drawn", seen[kind] > 0 ? 1 : 0, 1);
        }
    }

    private static void same(String what, ShapePour x, int got, ShapePour y, int want) {
        due(what, got, want);
        for (int k = 0; k < 7; k++) {
            due(what + ", count " + k, x.count(k), y.count(k));
        }
        for (int s = 0; s < x.count(0); s++) {
            for (int k = 1; k < 5; k++) {
                due(what + ", shape " + s, x.shape(s, k), y.shape(s, k));
            }
        }
    }

    /** A DAY by a SEED (x, an int): the least, the greatest, those below 0 */
    private static void dayBySeeds() {
        for (int seed : new int[] {LEAST, LEAST + 1, -1, 0, 1, MOST - 1, MOST, 0x80000001, 0x7fff0000}) {
            for (int times : new int[] {1, 2, 39, 40}) {
                ShapePour x = Check.on(PAGE);
                ShapePour y = Check.on(PAGE);
                drawn = seed & 0xffffffffL;
                int could = 0;
                for (int i = 0; i < times; i++) {
                    Check.tray(y, 0, told());
                    could += y.perform(0);
                }
                String what = "19: seed " + seed + ", " + times + " times";
                due(what, x.day(seed, times), could);
                for (int k = 0; k < 5; k++) {
                    due(what + ", count " + k, x.count(k), y.count(k));
                }
                for (int s = 0; s < 3; s++) {
                    row(what + ", shape " + s, new long[] {x.shape(s, 1), x.shape(s, 2), x.shape(s, 3)}, y.shape(s, 1), y.shape(s, 2), y.shape(s, 3));
                }
                row(what + ", as a whole", new long[] {x.count(6), x.undo(1), x.shape(0, 1), x.count(2)}, could > 0 ? 1 : 0, could > 0 ? 0 : -3, 100, 3);
            }
        }
    }

    /** as in a TRAY, if it can be: how many could be; those behind one that can't be are done */
    private static void dayLeavesOutWhatCantBe() {
        int found = 0;
        for (int seed = 0; seed < 200 && found < 5; seed++) {
            drawn = seed;
            int first = told();
            int second = told();
            // Shapes 3 to 5 are not there; an ink always can be.
            if (first >= 13000 && first < 16000 && second < 20) {
                found++;
                ShapePour x = Check.on(PAGE);
                row("19: the second", new long[] {x.day(seed, 2), x.count(2), x.count(6)}, 1, second - 10, 1);
                ShapePour y = Check.on(PAGE);
                row("19: none", new long[] {y.day(seed, 1), y.count(2), y.count(6), y.undo(1)}, 0, 3, 0, -3);
            }
        }
        due("19: such days", found > 0 ? 1 : 0, 1);
    }

    /** without shapes and words inks alone can be */
    private static void dayOnANewObject() {
        for (int seed = 0; seed < 20; seed++) {
            ShapePour x = new ShapePour();
            drawn = seed;
            int inks = 0;
            int ink = 0;
            for (int i = 0; i < 40; i++) {
                int deed = told();
                if (deed < 20) {
                    inks++;
                    ink = deed - 10;
                }
            }
            row("19: seed " + seed, new long[] {x.day(seed, 40), x.count(2), x.count(6)}, inks, ink, inks > 0 ? 1 : 0);
        }
    }
}
