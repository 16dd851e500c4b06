/**
 * Each sentence about lines, laws, spans, slots, pouring and rounds, and of promises 6 to 11, that
 * names a boundary case: one test each, headed by the sentence.
 */
public final class OutlineBoundsTest {
    private static final Check CHECK = new Check();
    private static final int NO = -99000001;
    private static final int REFUSED = -99000002;
    // 999 * 999 + 999 + 999 is 999,999.
    private static final String M = "(999*999+999+999)";

    public static void main(String[] args) {
        wordsOneAtLeast();
        wordsWithoutALaw();
        gapWithinBounds();
        gapWithoutALaw();
        sumsAreKept();
        differencesAreKept();
        productsAreKept();
        ifTellsOne();
        comparedWithEqualOnes();
        comparedAndJoined();
        lawsKnowTheirNumbers();
        boxTouchesALine();
        boxFromXToX();
        circleLessThanTheRadius();
        circleRounded();
        circleWithin();
        wedgeTouchesALine();
        wedgeAtTheLesser();
        wedgeRounded();
        spanRefused();
        leastWideAtLeast();
        lineNarrowerThanLeast();
        outlinesBeyondTheLine();
        spansThatTouch();
        sevenSlots();
        slotsRefused();
        slotRefused();
        behindWithOneBetween();
        theNextSlotThatIsAsWide();
        noneIsAsWide();
        hiddenOnesAreLeftOut();
        firstWordFromTheFirstSlot();
        tiedGoesDownWithItsWord();
        tiedIsNotThere();
        withoutTiedShapes();
        stillAtRoundOne();
        noPlaceIsAlike();
        clashesAtRoundTwo();
        clashNeedsAllLines();
        shapeRefused();
        wordRefused();
        liesRefused();
        CHECK.end();
    }

    private static void due(String what, long got, long want) {
        CHECK.due(what, got, want);
    }

    private static void row(String what, long[] got, long... want) {
        CHECK.row(what, got, want);
    }

    private static ShapePour on(int wide, int lines, int high, int least, String behind) {
        return Check.on("page wide " + wide + " lines " + lines + " high " + high + " least " + least + " ink 3;" + behind);
    }

    // ---- the laws

    private static void wide(String law, int want) {
        due("7: wide : " + law, on(200, 1, 1, 1, "words abc;wide : " + law + ";").word(0, 1), want);
    }

    /** How WIDE a WORD is: 1 at least, 200 at most */
    private static void wordsOneAtLeast() {
        wide("0", 1);
        wide("1", 1);
        wide("2", 2);
        wide("0 - 1", 1);
        wide("0 - 999 * 999", 1);
        wide("199", 199);
        wide("200", 200);
        wide("201", 200);
        wide("999 * 999", 200);
        ShapePour x = on(10, 2, 1, 1, "words a b;wide:0;");
        row("11: pours by 1", new long[] {x.lies(0, 1), x.lies(1, 1), x.full(0)}, 0, 2, 200);
        due("11: pours by 200", on(200, 1, 1, 1, "words a;wide:999;").placed(), 1);
    }

    /** without one: how many letters it has */
    private static void wordsWithoutALaw() {
        ShapePour x = on(20, 2, 1, 1, "words a abcdefghijkl;");
        row("7: letters", new long[] {x.word(0, 0), x.word(0, 1), x.word(1, 0), x.word(1, 1)}, 1, 1, 12, 12);
        x.ink(9);
        due("7: by any ink", x.word(1, 1), 12);
    }

    private static void gap(String law, int want) {
        ShapePour x = on(100, 1, 1, 1, "box 50 0 1 1;gap : " + law + ";");
        row("8: gap : " + law, new long[] {x.span(0, 0, 0), x.span(0, 0, 1)}, 50 - want, 51 + want);
    }

    /** GAP: 0 at least, 20 at most */
    private static void gapWithinBounds() {
        gap("0", 0);
        gap("0 - 1", 0);
        gap("0 - 999 * 999", 0);
        gap("1", 1);
        gap("19", 19);
        gap("20", 20);
        gap("21", 20);
        gap("999 * 999", 20);
    }

    /** without one: 0 */
    private static void gapWithoutALaw() {
        ShapePour x = on(100, 1, 2, 1, "box 50 0 1 1;circle 50 1 3;wedge 50 0 4 2;");
        row("8: no gap", new long[] {x.span(0, 0, 0), x.span(0, 0, 1), x.span(1, 0, 0), x.span(1, 0, 1), x.span(2, 0, 0), x.span(2, 0, 1)},
            50, 51, 47, 53, 46, 54);
        x = on(100, 1, 2, 1, "box 50 0 1 1;circle 50 1 3;wedge 50 0 4 2;gap:2;");
        row("8: to both sides the gap more", new long[] {x.span(0, 0, 0), x.span(0, 0, 1), x.span(1, 0, 0), x.span(1, 0, 1), x.span(2, 0, 0), x.span(2, 0, 1)},
            48, 53, 45, 55, 44, 56);
    }

    /** Each + is kept from -1,000,000 to 1,000,000 */
    private static void sumsAreKept() {
        wide("(" + M + " + 0) - " + M + " + 9", 9);
        wide("(" + M + " + 1) - " + M + " + 9", 10);
        wide("(" + M + " + 2) - " + M + " + 9", 10);
        wide("(" + M + " + " + M + ") - " + M + " + 9", 10);
        wide(M + " + 999 - 999 - " + M + " + 999", 1);
        wide("((0 - " + M + ") + (0 - 1)) + " + M + " + 9", 8);
        wide("((0 - " + M + ") + (0 - 2)) + " + M + " + 9", 8);
        wide("((0 - " + M + ") + (0 - " + M + ")) + " + M + " + 9", 8);
    }

    /** Each - is kept from -1,000,000 to 1,000,000 */
    private static void differencesAreKept() {
        wide("(0 - " + M + ") + " + M + " + 9", 9);
        wide("(0 - " + M + " - 1) + " + M + " + 9", 8);
        wide("(0 - " + M + " - 2) + " + M + " + 9", 8);
        wide("(0 - " + M + " - " + M + ") + " + M + " + 9", 8);
        wide("(" + M + " - (0 - 1)) - " + M + " + 9", 10);
        wide("(" + M + " - (0 - 2)) - " + M + " + 9", 10);
        wide("(" + M + " - (0 - " + M + ")) - " + M + " + 9", 10);
    }

    /** Each * is kept from -1,000,000 to 1,000,000 */
    private static void productsAreKept() {
        wide("(999 + 1) * (999 + 1) - " + M + " + 9", 10);
        wide("(999 + 1) * (999 + 2) - " + M + " + 9", 10);
        wide(M + " * " + M + " - " + M + " + 9", 10);
        wide("(0 - " + M + ") * (0 - " + M + ") - " + M + " + 9", 10);
        wide("(0 - 999 - 1) * (999 + 1) + " + M + " + 9", 8);
        wide("(0 - 999 - 1) * (999 + 2) + " + M + " + 9", 8);
        wide("(0 - " + M + ") * " + M + " + " + M + " + 9", 8);
        wide("(" + M + " + 1) * (" + M + " + 1) * 0 + 7", 7);
        wide("(" + M + " + 1) * (" + M + " + 1) * (0 - 1) + " + M + " + 9", 8);
    }

    /** if tells the one SUM, if the TRUTH holds, else the other one */
    private static void ifTellsOne() {
        wide("if 1 = 1 then 5 else 6 end", 5);
        wide("if 1 = 2 then 5 else 6 end", 6);
        wide("if not 1 = 1 then 5 else 6 end", 6);
        wide("if not [ 1 = 2 ] then 5 else 6 end", 5);
        String[] held = {"1=2", "1=1"};
        for (int a = 0; a < 2; a++) {
            for (int b = 0; b < 2; b++) {
                wide("if " + held[a] + " and " + held[b] + " then 5 else 6 end", a == 1 && b == 1 ? 5 : 6);
                wide("if " + held[a] + " or " + held[b] + " then 5 else 6 end", a == 1 || b == 1 ? 5 : 6);
                for (int c = 0; c < 2; c++) {
                    wide("if " + held[a] + " or " + held[b] + " and " + held[c] + " then 5 else 6 end", a == 1 || b == 1 && c == 1 ? 5 : 6);
                    wide("if " + held[a] + " and " + held[b] + " or " + held[c] + " then 5 else 6 end", a == 1 && b == 1 || c == 1 ? 5 : 6);
                    wide("if not " + held[a] + " and [" + held[b] + " or " + held[c] + "] then 5 else 6 end", a == 0 && (b == 1 || c == 1) ? 5 : 6);
                }
            }
        }
        wide("if if 1 = 1 then 0 else 7 end = 0 then 5 else 6 end", 5);
        wide("2 * if 1 = 1 then 5 + 1 else 6 end * 3", 36);
    }

    /** SUM, one of = < >, SUM: those that are alike */
    private static void comparedWithEqualOnes() {
        for (int a = 4; a <= 6; a++) {
            wide("if " + a + " = 5 then 1 else 2 end", a == 5 ? 1 : 2);
            wide("if " + a + " < 5 then 1 else 2 end", a < 5 ? 1 : 2);
            wide("if " + a + " > 5 then 1 else 2 end", a > 5 ? 1 : 2);
        }
        wide("if 0 - 1 < 0 then 1 else 2 end", 1);
        wide("if " + M + " + 1 = " + M + " + 2 then 1 else 2 end", 1);
        wide("if (0 - " + M + " - 999) > (0 - " + M + " - 1) then 1 else 2 end", 2);
    }

    /** TRUTH: what each of = < > tells, joined by not, and, or */
    private static void comparedAndJoined() {
        String[] holds = {"1 = 1", "1 < 2", "2 > 1", "not 1 = 2", "not 2 < 1", "not 1 > 2", "[ 2 > 1 ]", "not not 2 > 1"};
        String[] fails = {"1 = 2", "2 < 1", "1 > 2", "not 1 = 1", "not 1 < 2", "not 2 > 1", "[ 1 > 2 ]", "not not 1 > 2"};
        for (String a : holds) {
            wide("if " + a + " then 5 else 6 end", 5);
            for (String b : holds) {
                wide("if " + a + " and " + b + " then 5 else 6 end", 5);
                wide("if " + a + " or " + b + " then 5 else 6 end", 5);
                wide("if not [ " + a + " and " + b + " ] then 5 else 6 end", 6);
                wide("if not [ " + a + " or " + b + " ] then 5 else 6 end", 6);
            }
            for (String b : fails) {
                wide("if " + a + " and " + b + " then 5 else 6 end", 6);
                wide("if " + b + " and " + a + " then 5 else 6 end", 6);
                wide("if " + a + " or " + b + " then 5 else 6 end", 5);
                wide("if " + b + " or " + a + " then 5 else 6 end", 5);
            }
        }
        for (String a : fails) {
            wide("if " + a + " then 5 else 6 end", 6);
            for (String b : fails) {
                wide("if " + a + " and " + b + " then 5 else 6 end", 6);
                wide("if " + a + " or " + b + " then 5 else 6 end", 6);
                wide("if not [ " + a + " or " + b + " ] then 5 else 6 end", 5);
            }
        }
    }

    /** ink: the INK; size: how many letters; word: its number; first: its first letter (a 1, b 2 ..); shape, line: numbers */
    private static void lawsKnowTheirNumbers() {
        StringBuilder words = new StringBuilder("words");
        for (int w = 0; w < 30; w++) {
            words.append(' ').append((char) ('a' + w % 26)).append("bcdefghijkl", 0, w % 12);
        }
        String[] names = {"ink", "size", "word", "first"};
        for (int k = 0; k < 4; k++) {
            ShapePour x = on(200, 20, 1, 1, words + ";wide:" + names[k] + " + 1;");
            for (int w = 0; w < 30; w++) {
                due("7: wide by " + names[k], x.word(w, 1), 1 + (k == 0 ? 3 : k == 1 ? w % 12 + 1 : k == 2 ? w : w % 26 + 1));
            }
        }
        ShapePour x = on(200, 1, 1, 1, "words a;wide:ink;");
        for (int ink = 9; ink >= 0; ink--) {
            x.ink(ink);
            due("7: how wide now", x.word(0, 1), ink == 0 ? 1 : ink);
        }
        ShapePour g = on(200, 1, 1, 1, "box 50 0 1 1;gap:ink*2;");
        for (int ink : new int[] {9, 8, 0, 1, 4, 3, 5, 9, 2, 7, 6}) {
            g.ink(ink);
            row("8: the gap now", new long[] {g.span(0, 0, 0), g.span(0, 0, 1), g.slot(0, 1, 0)}, 50 - 2 * ink, 51 + 2 * ink, 51 + 2 * ink);
        }
        ShapePour y = on(200, 20, 1, 1, "box 50 0 1 40;".repeat(6) + "gap:shape*2+ink;");
        ShapePour z = on(200, 20, 1, 1, "box 50 0 1 40;".repeat(6) + "gap:line;");
        for (int s = 0; s < 6; s++) {
            due("8: gap by shape", y.span(s, 7, 0), 50 - 2 * s - 3);
            due("8: gap by line", z.span(s, 19, 1), 51 + 19);
            due("8: gap by line", z.span(s, 0, 1), 51);
        }
    }

    // ---- spans

    /** Its lefts and rights in all lines. */
    private static long[] spans(ShapePour x, int s) {
        long[] all = new long[2 * x.set(1)];
        for (int line = 0; line < x.set(1); line++) {
            all[2 * line] = x.span(s, line, 0);
            all[2 * line + 1] = x.span(s, line, 1);
        }
        return all;
    }

    private static void span(String shape, long... want) {
        row("8: " + shape, spans(on(100, 4, 5, 1, shape), 0), want);
    }

    /** box: if Y is less than the FOOT and Y and how high above the TOP */
    private static void boxTouchesALine() {
        span("box 7 5 3 5;", NO, NO, 7, 10, NO, NO, NO, NO);
        span("box 7 4 3 5;", 7, 10, 7, 10, NO, NO, NO, NO);
        span("box 7 4 3 1;", 7, 10, NO, NO, NO, NO, NO, NO);
        span("box 7 4 3 2;", 7, 10, 7, 10, NO, NO, NO, NO);
        span("box 7 5 3 6;", NO, NO, 7, 10, 7, 10, NO, NO);
        span("box 7 0 3 200;", 7, 10, 7, 10, 7, 10, 7, 10);
        span("box 7 19 3 1;", NO, NO, NO, NO, NO, NO, 7, 10);
        span("box 7 20 3 200;", NO, NO, NO, NO, NO, NO, NO, NO);
        span("box 7 400 3 200;", NO, NO, NO, NO, NO, NO, NO, NO);
    }

    /** from X to X and how wide */
    private static void boxFromXToX() {
        span("box 0 0 1 5;", 0, 1, NO, NO, NO, NO, NO, NO);
        span("box 200 0 200 5;", 200, 400, NO, NO, NO, NO, NO, NO);
        span("box 0 0 200 5;gap:999;", -20, 220, NO, NO, NO, NO, NO, NO);
    }

    /** circle: if d is less than the radius r */
    private static void circleLessThanTheRadius() {
        // Above line 2 (10 to 15) by 3: at 7; below it by 3: at 18.
        span("circle 50 7 3;", 47, 53, 47, 53, NO, NO, NO, NO);
        span("circle 50 7 4;", 46, 54, 46, 54, 47, 53, NO, NO);
        span("circle 50 18 3;", NO, NO, NO, NO, NO, NO, 47, 53);
        span("circle 50 18 4;", NO, NO, NO, NO, 47, 53, 46, 54);
        span("circle 50 20 1;", NO, NO, NO, NO, NO, NO, 49, 51);
        span("circle 50 21 1;", NO, NO, NO, NO, NO, NO, NO, NO);
        span("circle 50 400 100;", NO, NO, NO, NO, NO, NO, NO, NO);
    }

    /** d: 0, if neither: at the TOP, at the FOOT */
    private static void circleWithin() {
        span("circle 50 10 1;", NO, NO, 49, 51, 49, 51, NO, NO);
        span("circle 50 9 1;", NO, NO, 49, 51, NO, NO, NO, NO);
        span("circle 50 0 1;", 49, 51, NO, NO, NO, NO, NO, NO);
        // The root of 24 lies between 4 and 5.
        span("circle 50 9 5;", 47, 53, 45, 55, 45, 55, NO, NO);
    }

    /** X - half rounded down to X + half rounded up */
    private static void circleRounded() {
        // By 3 off a radius of 5: 4 to each side, by 4: 3.
        span("circle 9 3 5;", 4, 14, 4, 14, NO, NO, NO, NO);
        span("circle 9 2 5;", 4, 14, 5, 13, NO, NO, NO, NO);
        span("circle 9 1 5;", 4, 14, 6, 12, NO, NO, NO, NO);
        // By 1 off a radius of 2: a root of 3, below 0, too.
        span("circle 9 4 2;", 7, 11, 7, 11, NO, NO, NO, NO);
        span("circle 0 4 2;", -2, 2, -2, 2, NO, NO, NO, NO);
        span("circle 1 4 2;", -1, 3, -1, 3, NO, NO, NO, NO);
        span("circle 200 4 100;", 100, 300, 100, 300, 100, 300, 100, 300);
        // By 99 off a radius of 100: a root of 199; of 9999 and 10000 alike.
        row("8: far", spans(on(100, 1, 1, 1, "circle 50 100 100;"), 0), 50 - 15, 50 + 15);
        row("8: near", spans(on(100, 1, 1, 1, "circle 50 2 100;"), 0), 50 - 100, 50 + 100);
        for (int d = 0; d < 100; d++) {
            int n = 100 * 100 - d * d;
            int root = (int) Math.ceil((float) Math.sqrt((float) n));
            row("8: by " + d, spans(on(100, 1, 1, 1, "circle 150 " + (1 + d) + " 100;"), 0), 150 - root, 150 + root);
        }
    }

    /** wedge: as the box by its Y and how high */
    private static void wedgeTouchesALine() {
        span("wedge 50 5 6 5;", NO, NO, 44, 56, NO, NO, NO, NO);
        span("wedge 50 4 6 1;", 44, 56, NO, NO, NO, NO, NO, NO);
        span("wedge 50 4 6 2;", 47, 53, 44, 56, NO, NO, NO, NO);
        span("wedge 50 20 6 2;", NO, NO, NO, NO, NO, NO, NO, NO);
        span("wedge 50 19 6 1;", NO, NO, NO, NO, NO, NO, 44, 56);
    }

    /** at, the lesser of FOOT and (Y and how high), less Y */
    private static void wedgeAtTheLesser() {
        // 10 high with a half foot of 10: as wide to each side as it is below its tip.
        span("wedge 50 3 10 10;", 48, 52, 43, 57, 40, 60, NO, NO);
        span("wedge 50 0 10 10;", 45, 55, 40, 60, NO, NO, NO, NO);
        span("wedge 50 5 100 10;", NO, NO, 0, 100, -50, 150, NO, NO);
    }

    /** half = (float) w * at / h, so rounded */
    private static void wedgeRounded() {
        // A two hundredth to each side, and 199 of them.
        row("8: the least", spans(on(100, 1, 1, 1, "wedge 50 0 1 200;"), 0), 49, 51);
        ShapePour x = on(200, 20, 10, 1, "wedge 50 1 1 200;");
        row("8: nearly 1, and 1", new long[] {x.span(0, 19, 0), x.span(0, 19, 1), x.span(0, 0, 0), x.span(0, 0, 1)}, 49, 51, 49, 51);
        row("8: below 0", spans(on(100, 1, 1, 1, "wedge 0 0 1 2;"), 0), -1, 1);
        row("8: whole", spans(on(100, 1, 1, 1, "wedge 50 0 6 2;"), 0), 47, 53);
        row("8: half", spans(on(100, 1, 1, 1, "wedge 50 0 7 2;"), 0), 46, 54);
        row("8: far", spans(on(100, 1, 20, 1, "wedge 200 0 100 1;"), 0), 100, 300);
    }

    /** span: NONE: it isn't there, isn't in that LINE; -2 (ahead of NONE) */
    private static void spanRefused() {
        ShapePour x = on(20, 3, 2, 1, "box 5 2 3 2;box 5 0 3 2;tie 1 0;");
        row("8: none", new long[] {x.span(0, 0, 0), x.span(0, 2, 1), x.span(1, 0, 0), x.span(1, 1, 1)}, NO, NO, NO, NO);
        row("8: there", new long[] {x.span(0, 1, 0), x.span(0, 1, 1)}, 5, 8);
        row("8: no shape", new long[] {x.span(-1, 1, 0), x.span(2, 1, 0), x.span(6, 1, 0), x.span(Integer.MAX_VALUE, 1, 0), x.span(Integer.MIN_VALUE, 1, 0)},
            REFUSED, REFUSED, REFUSED, REFUSED, REFUSED);
        row("8: no line", new long[] {x.span(0, -1, 0), x.span(0, 3, 0), x.span(0, 20, 0), x.span(0, Integer.MAX_VALUE, 0), x.span(0, Integer.MIN_VALUE, 0)},
            REFUSED, REFUSED, REFUSED, REFUSED, REFUSED);
        row("8: no such", new long[] {x.span(0, 1, -1), x.span(0, 1, 2), x.span(0, 1, Integer.MAX_VALUE), x.span(0, 1, Integer.MIN_VALUE)},
            REFUSED, REFUSED, REFUSED, REFUSED);
        row("8: ahead of none", new long[] {x.span(0, 0, 2), x.span(1, 0, -1), x.span(1, 3, 0)}, REFUSED, REFUSED, REFUSED);
        due("8: of a new object", new ShapePour().span(0, 0, 0), REFUSED);
    }

    // ---- slots

    /** each LEAST wide at least */
    private static void leastWideAtLeast() {
        for (int least = 1; least <= 6; least++) {
            // 3 ahead of the boxes, 4 between them, 5 behind.
            ShapePour x = on(20, 1, 5, least, "box 3 0 4 5;box 11 0 4 5;");
            due("9: " + least + " at least", x.slots(0), least <= 3 ? 3 : least == 4 ? 2 : least == 5 ? 1 : 0);
            row("10: the first", new long[] {x.slot(0, 0, 0), x.slot(0, 0, 1)}, least <= 3 ? 0 : least == 4 ? 7 : least == 5 ? 15 : -1,
                least <= 3 ? 3 : least == 4 ? 11 : least == 5 ? 20 : -1);
        }
    }

    /** LEAST 1 to 50, WIDE 10 to 200: a line that is not as wide has no SLOT */
    private static void lineNarrowerThanLeast() {
        ShapePour x = on(10, 2, 1, 10, "words a;");
        row("9: as wide", new long[] {x.slots(0), x.count(5), x.placed()}, 1, 2, 1);
        ShapePour y = on(10, 2, 1, 11, "words a;");
        row("9: not as wide", new long[] {y.slots(0), y.slots(1), y.count(5), y.placed(), y.slot(0, 0, 0), y.lies(0, 0)}, 0, 0, 0, 0, -1, -1);
        row("30: by the least", new long[] {y.leastWide(), on(10, 2, 1, 50, "words a;").leastWide()}, 11, 50);
    }

    /** from 0 to WIDE: outlines ahead of it, beyond it, all over it */
    private static void outlinesBeyondTheLine() {
        row("9: ends at 0", ends(on(20, 1, 5, 1, "wedge 0 0 1 5;gap:0;")), 1, 20);
        row("9: begins at its end", ends(on(20, 1, 5, 1, "box 20 0 5 5;")), 0, 20);
        row("9: begins by 1 ahead", ends(on(20, 1, 5, 1, "box 19 0 5 5;")), 0, 19);
        row("9: ends at its end", ends(on(20, 1, 5, 1, "box 15 0 5 5;")), 0, 15);
        row("9: ends by 1 ahead", ends(on(20, 1, 5, 1, "box 0 0 19 5;")), 19, 20);
        row("9: all over", ends(on(20, 1, 5, 1, "box 0 0 20 5;")), -1, -1);
        row("9: all over, and more", ends(on(20, 1, 5, 1, "box 3 0 14 5;gap:20;")), -1, -1);
        row("9: far beyond", ends(on(20, 1, 5, 1, "box 200 0 200 5;")), 0, 20);
        row("9: a gap comes in", ends(on(20, 1, 5, 1, "box 22 0 1 5;gap:3;")), 0, 19);
    }

    private static long[] ends(ShapePour x) {
        return new long[] {x.slot(0, 0, 0), x.slot(0, 0, 1)};
    }

    /** what is left of it beside the SPANS of all SHAPES: spans that touch, within one another, over one another, in any order */
    private static void spansThatTouch() {
        String[] pairs = {"box 5 0 5 5;box 10 0 5 5;", "box 10 0 5 5;box 5 0 5 5;", "box 5 0 10 5;box 7 0 2 5;", "box 7 0 2 5;box 5 0 10 5;",
            "box 5 0 7 5;box 8 0 7 5;", "box 8 0 7 5;box 5 0 7 5;", "box 5 0 10 5;box 5 0 10 5;", "box 5 0 10 5;box 5 0 2 5;", "box 5 0 2 5;box 5 0 10 5;"};
        for (String pair : pairs) {
            ShapePour x = on(20, 1, 5, 1, pair);
            row("9: " + pair, new long[] {x.slots(0), x.slot(0, 0, 0), x.slot(0, 0, 1), x.slot(0, 1, 0), x.slot(0, 1, 1)}, 2, 0, 5, 15, 20);
        }
        ShapePour y = on(20, 1, 5, 1, "box 5 0 5 5;box 11 0 4 5;");
        row("9: 1 between", new long[] {y.slots(0), y.slot(0, 1, 0), y.slot(0, 1, 1)}, 3, 10, 11);
        ShapePour z = on(20, 1, 5, 1, "box 5 0 15 5;box 6 0 2 5;box 9 0 2 5;");
        row("9: a long one ahead of short ones", new long[] {z.slots(0), z.slot(0, 0, 1)}, 1, 5);
    }

    /** SHAPES, 6 at most: seven SLOTS in a LINE */
    private static void sevenSlots() {
        ShapePour x = on(13, 20, 1, 1, "box 11 0 1 20;box 1 0 1 20;box 9 0 1 20;box 3 0 1 20;box 7 0 1 20;box 5 0 1 20;words a b c d e f g h;");
        row("9: seven", new long[] {x.slots(0), x.slots(19), x.count(5)}, 7, 7, 140);
        for (int i = 0; i < 7; i++) {
            row("10: slot " + i, new long[] {x.slot(0, i, 0), x.slot(0, i, 1), x.slot(0, i, 2), x.slot(19, i, 0), x.slot(1, i, 2)},
                2 * i, 2 * i + 1, 1, 2 * i, i == 0 ? 1 : 0);
            row("11: in it", new long[] {x.lies(i, 0), x.lies(i, 1), x.lies(i, 2)}, 0, 2 * i, i);
        }
        row("11: the next line", new long[] {x.lies(7, 0), x.lies(7, 1), x.lies(7, 2), x.slot(0, 7, 0)}, 1, 0, 0, -1);
    }

    /** slots: -2. */
    private static void slotsRefused() {
        ShapePour x = on(20, 3, 2, 1, "");
        row("9: lines", new long[] {x.slots(0), x.slots(2), x.slots(3), x.slots(-1), x.slots(20), x.slots(Integer.MAX_VALUE), x.slots(Integer.MIN_VALUE)},
            1, 1, -2, -2, -2, -2, -2);
    }

    /** slot: NONE: not so many; -2: the LINE, what; -3: i is below 0. (that which the call tells first; all these ahead of NONE) */
    private static void slotRefused() {
        ShapePour x = on(20, 3, 2, 1, "box 5 0 5 2;");
        row("10: not so many", new long[] {x.slot(0, 2, 0), x.slot(1, 1, 1), x.slot(0, Integer.MAX_VALUE, 2)}, -1, -1, -1);
        row("10: the line", new long[] {x.slot(-1, 0, 0), x.slot(3, 0, 0), x.slot(Integer.MIN_VALUE, 0, 0), x.slot(Integer.MAX_VALUE, 0, 0)}, -2, -2, -2, -2);
        row("10: what", new long[] {x.slot(0, 0, -1), x.slot(0, 0, 3), x.slot(0, 9, 3), x.slot(0, 0, Integer.MIN_VALUE)}, -2, -2, -2, -2);
        row("10: below 0", new long[] {x.slot(0, -1, 0), x.slot(0, -1, 2), x.slot(2, Integer.MIN_VALUE, 1)}, -3, -3, -3);
        row("10: the line, what ahead of it", new long[] {x.slot(3, -1, 0), x.slot(0, -1, 3), x.slot(-1, -1, -1)}, -2, -2, -2);
    }

    // ---- pouring

    private static long[] places(ShapePour x) {
        long[] all = new long[3 * x.count(1)];
        for (int i = 0; i < all.length; i++) {
            all[i] = x.lies(i / 3, i % 3);
        }
        return all;
    }

    /** behind the one ahead with 1 between, if that SLOT has room for it */
    private static void behindWithOneBetween() {
        row("11: room for it", places(on(10, 2, 5, 1, "words aaaa bbbbb;")), 0, 0, 0, 0, 5, 0);
        row("11: by 1 too wide", places(on(10, 2, 5, 1, "words aaaa bbbbbb;")), 0, 0, 0, 1, 0, 0);
        row("11: the between alone has room", places(on(10, 2, 5, 1, "words aaaaaaaaa b;")), 0, 0, 0, 1, 0, 0);
        row("11: no room between", places(on(10, 2, 5, 1, "words aaaaaaaaaa b;")), 0, 0, 0, 1, 0, 0);
        row("11: three", places(on(10, 2, 5, 1, "words aa bb cccc d;")), 0, 0, 0, 0, 3, 0, 0, 6, 0, 1, 0, 0);
    }

    /** else at the left of the next SLOT (to the right, then in the next LINE) that is as wide */
    private static void theNextSlotThatIsAsWide() {
        // Line 0: 0 to 4, 6 to 9, 11 to 20; line 1: 0 to 20.
        String boxes = "box 4 0 2 5;box 9 0 2 5;";
        row("11: to the right", places(on(20, 2, 5, 1, boxes + "words aaaa bbb ccccccccc;")), 0, 0, 0, 0, 6, 1, 0, 11, 2);
        row("11: the first that is as wide", places(on(20, 2, 5, 1, boxes + "words aaaa bbbb cccc;")), 0, 0, 0, 0, 11, 2, 0, 16, 2);
        row("11: in the next line", places(on(20, 2, 5, 1, boxes + "words aaaa bbbbbbbbbb c;")), 0, 0, 0, 1, 0, 0, 1, 11, 0);
        row("11: never back", places(on(20, 2, 5, 1, boxes + "words bbbbbbbbbb a;")), 1, 0, 0, 1, 11, 0);
        ShapePour x = on(20, 2, 5, 1, boxes + "words aaaa bbbb cccc;");
        row("10: words in them", new long[] {x.slot(0, 0, 2), x.slot(0, 1, 2), x.slot(0, 2, 2), x.slot(1, 0, 2)}, 1, 0, 2, 0);
    }

    /** if there is none: it and all behind it find no place */
    private static void noneIsAsWide() {
        ShapePour x = on(10, 2, 5, 1, "words aaaa bbbbbbbbbbb c d;");
        row("11: too wide for all", places(x), 0, 0, 0, -1, -1, -1, -1, -1, -1, -1, -1, -1);
        row("20: placed", new long[] {x.placed(), x.last(), x.inLine(0), x.inLine(1)}, 1, 0, 1, 0);
        x.hide(1);
        row("11: without it", places(x), 0, 0, 0, -1, -1, -1, 0, 5, 0, 0, 7, 0);
        row("11: all full", places(on(10, 2, 5, 1, "words aaaaaaaaaa bbbbbbbbbb c;")), 0, 0, 0, 1, 0, 0, -1, -1, -1);
        ShapePour y = on(10, 1, 5, 1, "words bbbbbbbbbbb c;");
        row("11: the first one", new long[] {y.lies(0, 0), y.lies(1, 0), y.placed(), y.last()}, -1, -1, 0, -1);
    }

    /** WORD by WORD that isn't hidden */
    private static void hiddenOnesAreLeftOut() {
        ShapePour x = on(10, 2, 5, 1, "words aaa bbb ccc ddd;");
        row("11: all", places(x), 0, 0, 0, 0, 4, 0, 1, 0, 0, 1, 4, 0);
        x.hide(1);
        row("11: no 1 between for it", places(x), 0, 0, 0, -1, -1, -1, 0, 4, 0, 1, 0, 0);
        x.hide(0);
        row("11: the first two", places(x), -1, -1, -1, -1, -1, -1, 0, 0, 0, 0, 4, 0);
        x.hide(3);
        row("11: the last, too", places(x), -1, -1, -1, -1, -1, -1, 0, 0, 0, -1, -1, -1);
        x.hide(2);
        row("11: all hidden", new long[] {x.placed(), x.last(), x.slot(0, 0, 2), x.count(3)}, 0, -1, 0, 15);
        x.hide(1);
        row("11: shown again", new long[] {x.placed(), x.lies(1, 1)}, 1, 0);
    }

    /** The first one: from the first SLOT on. */
    private static void firstWordFromTheFirstSlot() {
        row("11: the first", places(on(20, 2, 5, 1, "box 0 0 3 5;words a;")), 0, 3, 0);
        row("11: the first as wide", places(on(20, 2, 5, 1, "box 3 0 3 5;words aaaa b;")), 0, 6, 1, 0, 11, 1);
        row("11: in line 1", places(on(20, 2, 5, 1, "box 3 0 17 5;words aaaa;")), 1, 0, 0);
    }

    // ---- tied shapes, rounds

    /** A SHAPE that is tied: its Y as told, and HIGH times the LINE of its WORD more */
    private static void tiedGoesDownWithItsWord() {
        ShapePour x = on(10, 9, 7, 1, "words aaaaaa bbbbbb cccccc dddddd;box 9 3 1 1;tie 0 3;");
        row("6: Y", new long[] {x.shape(0, 2), x.shape(0, 4)}, 3, 3 + 7 * 3);
        x.tie(0, 0);
        due("6: in line 0", x.shape(0, 4), 3);
        x.move(0, 1, 4);
        x.tie(0, 2);
        row("6: moved", new long[] {x.shape(0, 2), x.shape(0, 4)}, 7, 7 + 7 * 2);
        x.hide(0);
        due("6: its word goes up", x.shape(0, 4), 7 + 7);
        x.tie(0, -1);
        due("6: tied to none", x.shape(0, 4), 7);
        ShapePour y = Check.on("page wide 10 lines 20 high 20 least 1 ink 0;box 0 400 1 1;tie 0 19;words" + " aaaaaaaaaa".repeat(20) + ";");
        row("6: the farthest", new long[] {y.shape(0, 4), y.span(0, 19, 0)}, 400 + 20 * 19, NO);
    }

    /** not there, if that WORD has no place (is hidden, isn't) */
    private static void tiedIsNotThere() {
        ShapePour x = on(10, 2, 5, 1, "words aaaa bbbbbbbbbbb;box 5 0 1 5;");
        due("6: there", x.shape(0, 4), 0);
        x.tie(0, 1);
        row("6: its word has no place", new long[] {x.shape(0, 4), x.span(0, 0, 0), x.slots(0), x.shape(0, 3), x.count(4)}, -1, NO, 1, 1, 1);
        x.tie(0, 0);
        x.hide(0);
        row("6: its word is hidden", new long[] {x.shape(0, 4), x.span(0, 0, 0)}, -1, NO);
        x.hide(0);
        due("6: shown", x.shape(0, 4), 0);
        x.tie(0, 2);
        row("6: its word isn't", new long[] {x.shape(0, 4), x.shape(0, 3)}, -1, 2);
        x.tie(0, 29);
        due("6: nor is the last", x.shape(0, 4), -1);
    }

    /** Without tied SHAPES: ROUND 0, STILL. */
    private static void withoutTiedShapes() {
        row("27, 28: none at all", rounds(on(10, 2, 5, 1, "")), 0, 0, 0);
        row("27, 28: none tied", rounds(on(10, 2, 5, 1, "words a;box 0 0 1 1;circle 3 3 3;")), 0, 0, 0);
        ShapePour x = on(10, 2, 5, 1, "words a;box 0 0 1 1;tie 0 0;");
        x.tie(0, -1);
        row("27, 28: not any more", rounds(x), 0, 0, 0);
    }

    private static long[] rounds(ShapePour x) {
        return new long[] {x.rounds(), x.still(), x.clash()};
    }

    /** STILL at the first ROUND k (1 and more) */
    private static void stillAtRoundOne() {
        row("27, 28: far from its word", rounds(on(10, 2, 5, 1, "words a;box 0 5 1 1;tie 0 0;")), 1, 0, 0);
        // In round 1 its word goes aside, not into another line.
        ShapePour x = on(10, 2, 5, 1, "words a;box 0 0 3 5;tie 0 0;");
        row("27, 28: aside", rounds(x), 1, 0, 0);
        row("11: by that round's shapes", new long[] {x.lies(0, 1), x.shape(0, 4), x.slot(0, 0, 0)}, 3, 0, 3);
        // Round 1 pushes its word to line 1, round 2 has the shape there, too, as it is that high: as before.
        ShapePour y = on(10, 4, 5, 1, "words a b;wide:9;box 0 0 10 1;circle 200 0 1;tie 1 1;");
        row("27, 28: another shape is", rounds(y), 1, 0, 0);
    }

    /** (no place: alike) */
    private static void noPlaceIsAlike() {
        row("27, 28: isn't", rounds(on(10, 2, 5, 1, "words a;box 0 0 10 10;tie 0 9;")), 1, 0, 0);
        row("27, 28: no words", rounds(on(10, 2, 5, 1, "box 0 0 10 10;tie 0 0;")), 1, 0, 0);
        ShapePour x = on(10, 2, 5, 1, "words a b;box 0 0 10 10;tie 0 1;");
        x.hide(1);
        row("27, 28: hidden", rounds(x), 1, 0, 0);
        row("27, 28: finds none", rounds(on(10, 2, 5, 1, "words a bbbbbbbbbbb;box 0 0 10 10;tie 0 1;")), 1, 0, 0);
        // Shape 0 leaves no place for word 1 from round 1 on: shape 1 is there in round 1 alone.
        ShapePour y = on(10, 2, 5, 1, "words aaaaaaaaaa bbbbbbbbbb;box 0 5 10 5;tie 0 0;box 200 0 1 1;tie 1 1;");
        row("27, 28: none, and none again", rounds(y), 2, 0, 0);
        row("6: not there in the last round", new long[] {y.shape(0, 4), y.shape(1, 4), y.lies(1, 0)}, 5, -1, -1);
    }

    /** it CLASHES, if in ROUND k all these lie in LINES as in a ROUND ahead of k - 1 */
    private static void clashesAtRoundTwo() {
        ShapePour x = on(10, 2, 5, 1, "words aaaa;box 0 0 10 5;tie 0 0;");
        // Line 0, line 1, and as the shape is there then: line 0.
        row("27, 28, 29", rounds(x), 2, 1, 1);
        row("6, 11: of that round", new long[] {x.shape(0, 4), x.lies(0, 0), x.slots(0), x.slots(1)}, 5, 0, 1, 0);
        ShapePour y = on(10, 1, 5, 1, "words aaaa;box 0 0 10 5;tie 0 0;");
        row("27, 28, 29: there or not", rounds(y), 2, 1, 1);
        row("6, 11: of that round", new long[] {y.shape(0, 4), y.lies(0, 0)}, -1, 0);
    }

    /** all these lie: two that come round by turns */
    private static void clashNeedsAllLines() {
        // Shape 0 clashes by word 0; shape 1 is tied to the same word and far off, shape 2 to a word that stays, shape 3 to none.
        ShapePour x = on(10, 4, 5, 1, "words bbbbbbbbbb aaaaaaaaaa;box 0 0 10 5;box 200 0 1 1;box 200 0 1 1;box 200 0 1 1;tie 0 1;tie 1 1;tie 2 0;");
        // Word 1: line 1, then 2, then 1.
        row("27, 28, 29", rounds(x), 2, 1, 3);
        row("6: of that round", new long[] {x.shape(0, 4), x.shape(1, 4), x.shape(2, 4), x.shape(3, 4)}, 10, 10, 0, 0);
    }

    // ---- promises 6, 7, 11

    /** shape: -2. */
    private static void shapeRefused() {
        ShapePour x = on(10, 1, 5, 1, "box 1 2 3 4;wedge 5 6 7 8;");
        row("6: told", new long[] {x.shape(1, 0), x.shape(1, 1), x.shape(1, 2), x.shape(1, 3), x.shape(1, 4)}, 2, 5, 6, -1, 6);
        row("6: no shape", new long[] {x.shape(2, 0), x.shape(-1, 0), x.shape(5, 0), x.shape(6, 0), x.shape(Integer.MAX_VALUE, 0), x.shape(Integer.MIN_VALUE, 0)},
            -2, -2, -2, -2, -2, -2);
        row("6: no such", new long[] {x.shape(0, 5), x.shape(0, -1), x.shape(0, Integer.MAX_VALUE), x.shape(0, Integer.MIN_VALUE), x.shape(9, 9)}, -2, -2, -2, -2, -2);
    }

    /** word: -2. */
    private static void wordRefused() {
        ShapePour x = on(10, 1, 5, 1, "words a bb;");
        row("7: told", new long[] {x.word(1, 0), x.word(1, 1), x.word(1, 2), x.hide(1), x.word(1, 2), x.word(1, 1), x.hide(1), x.word(1, 2)}, 2, 2, 0, 1, 1, 2, 0, 0);
        row("7: no word", new long[] {x.word(2, 0), x.word(-1, 0), x.word(29, 0), x.word(30, 0), x.word(Integer.MAX_VALUE, 0), x.word(Integer.MIN_VALUE, 0)},
            -2, -2, -2, -2, -2, -2);
        row("7: no such", new long[] {x.word(0, 3), x.word(0, -1), x.word(0, Integer.MAX_VALUE), x.word(0, Integer.MIN_VALUE), x.word(9, 9)}, -2, -2, -2, -2, -2);
    }

    /** lies: NONE: it has no place; -2 (ahead of NONE) */
    private static void liesRefused() {
        ShapePour x = on(10, 1, 5, 1, "words a bb;");
        x.hide(0);
        row("11: no place", new long[] {x.lies(0, 0), x.lies(0, 1), x.lies(0, 2)}, -1, -1, -1);
        row("11: no word", new long[] {x.lies(2, 0), x.lies(-1, 0), x.lies(29, 0), x.lies(30, 0), x.lies(Integer.MAX_VALUE, 0), x.lies(Integer.MIN_VALUE, 0)},
            -2, -2, -2, -2, -2, -2);
        row("11: no such", new long[] {x.lies(1, 3), x.lies(1, -1), x.lies(0, 3), x.lies(0, -1), x.lies(0, Integer.MAX_VALUE), x.lies(0, Integer.MIN_VALUE)},
            -2, -2, -2, -2, -2, -2);
    }
}
