/**
 * Each sentence about the text, its tokens and faults, and of promises 1 to 5, that names a boundary
 * case: one test each, headed by the sentence.
 */
public final class TextBoundsTest {
    private static final Check CHECK = new Check();
    private static final String HEAD = "page wide 10 lines 1 high 1 least 1 ink 0;";
    private static final int AT = HEAD.length();
    private static final String BOX = "box 0 0 1 1;";
    private static final String CIRCLE = "circle 0 0 1;";
    private static final String WEDGE = "wedge 0 0 1 1;";
    private static final int BLANKS = 0x20202020;

    public static void main(String[] args) {
        nothingOnANewObject();
        noMoreThanNineHundred();
        twentyBytesEach();
        theHighestFirst();
        textOfNineHundred();
        firstBytesOfTheTape();
        belowZeroOrAbove();
        tapeIsEmptyThen();
        noneHiddenNoneUndone();
        howManyLines();
        allStaysWithAFault();
        faultOfTheLatest();
        faultNoneForOthers();
        setTellsThePage();
        numbersOfThePage();
        numbersOfOutlines();
        sixShapesAtMost();
        shapesAreNumbered();
        tieToOneToldAhead();
        tieToAWord();
        laterTieStrikes();
        thirtyWordsAtMost();
        oneToTwelveLetters();
        anyLetters();
        laterLawsStrike();
        nothingOfThePageAhead();
        blanksBetween();
        tokensAsLongAsTheyGoOn();
        everyByte();
        oneToThreeDigits();
        theLeastKind();
        theFirstAlongTheText();
        theEndIsTheLength();
        pageFirstAndOnce();
        wordsOfTheOtherLaw();
        eachTokenOfALine();
        sixWithinOneAnother();
        besideOneAnother();
        CHECK.end();
    }

    private static void due(String what, long got, long want) {
        CHECK.due(what, got, want);
    }

    private static void row(String what, long[] got, long... want) {
        CHECK.row(what, got, want);
    }

    private static void fault(String text, int kind, int place) {
        ShapePour x = new ShapePour();
        due("3: page " + text, Texts.page(x, text), -30 - kind);
        row("4: fault of " + text, new long[] {x.fault(0), x.fault(1)}, kind, place);
    }

    private static ShapePour fine(String text) {
        ShapePour x = new ShapePour();
        Texts.page(x, text);
        row("4: no fault in " + text, new long[] {x.fault(0), x.fault(1)}, 0, -1);
        return x;
    }

    private static void feed(ShapePour x, String text) {
        for (int[] f : Texts.fives(text)) {
            x.feed(f[0], f[1], f[2], f[3], f[4]);
        }
    }

    private static ShapePour full() {
        ShapePour x = new ShapePour();
        for (int i = 0; i < 45; i++) {
            x.feed(BLANKS, BLANKS, BLANKS, BLANKS, BLANKS);
        }
        return x;
    }

    // ---- promises 1 to 5

    /** Nothing on it. / without one: WIDE 40, LINES 10, HIGH 5, LEAST 4, INK 0, nothing on it */
    private static void nothingOnANewObject() {
        ShapePour x = new ShapePour();
        row("1: set", new long[] {x.set(0), x.set(1), x.set(2), x.set(3)}, 40, 10, 5, 4);
        for (int what : new int[] {0, 1, 2, 3, 4, 6, 7, 8}) {
            due("1: count " + what, x.count(what), 0);
        }
        due("1: a slot a line", x.count(5), 10);
        for (int line = 0; line < 10; line++) {
            row("1: line " + line, new long[] {x.slots(line), x.slot(line, 0, 0), x.slot(line, 0, 1), x.slot(line, 0, 2), x.inLine(line), x.full(line)},
                1, 0, 40, 0, 0, 0);
        }
        due("1: no eleventh line", x.slots(10), -2);
        row("1: no shape, no word", new long[] {x.shape(0, 0), x.word(0, 0), x.lies(0, 0), x.bestX(0), x.pushes(0), x.keep(0, 0)}, -2, -2, -2, -2, -2, -2);
        row("1: the setting", new long[] {x.placed(), x.last(), x.ragged(), x.tight(), x.tightWays(), x.rounds(), x.still(), x.clash()},
            0, -1, 0, -1, -1, 0, 0, 0);
        row("1: nothing undone, no image", new long[] {x.undo(1), x.restore(0), x.restore(1)}, -3, -5, -5);
        row("1: trays, drawer missing", new long[] {x.lists(0), x.lists(1), x.lists(2), x.lists(3), x.kept(0, 0)}, -6, -6, -6, -6, -6);
        due("1: no text to read", x.page(1), -3);
    }

    /** feed: -5: it would have more than 900. */
    private static void noMoreThanNineHundred() {
        ShapePour x = full();
        due("2: 900 can be", x.count(7), 900);
        due("2: 920 can't", x.feed(1, 2, 3, 4, 5), -5);
        due("2: refused, it stays", x.count(7), 900);
        due("2: what was fed stays", x.page(900), -32);
        due("4: 900 blanks have no token", x.fault(1), 900);
        due("2: again behind page()", x.feed(1, 2, 3, 4, 5), 20);
    }

    /** Twenty bytes come behind those on THE TAPE: how many it has. */
    private static void twentyBytesEach() {
        ShapePour x = new ShapePour();
        for (int i = 1; i <= 45; i++) {
            due("2: how many", x.feed(-1, 0, Integer.MIN_VALUE, Integer.MAX_VALUE, i), 20 * i);
            due("46: bytes on the tape", x.count(7), 20 * i);
        }
    }

    /** the highest of each int first */
    private static void theHighestFirst() {
        String text = "page wide 123 lines 17 high 4 least 6 ink 8;";
        ShapePour x = new ShapePour();
        for (int at = 0; at < 60; at += 20) {
            int[] five = new int[5];
            for (int i = 0; i < 20; i++) {
                int c = at + i < text.length() ? text.charAt(at + i) : ' ';
                five[i / 4] = five[i / 4] * 256 + c;
            }
            x.feed(five[0], five[1], five[2], five[3], five[4]);
        }
        row("2: in order", new long[] {x.page(60), x.set(0), x.set(1), x.set(2), x.set(3), x.count(2)}, 1, 123, 17, 4, 6, 8);
    }

    /** a TEXT of at most 900 bytes */
    private static void textOfNineHundred() {
        StringBuilder b = new StringBuilder(HEAD);
        while (b.length() < 890) {
            b.append(' ');
        }
        ShapePour x = new ShapePour();
        feed(x, b + "words abc;");
        row("3: its last byte too", new long[] {x.count(7), x.page(900), x.count(1), x.word(0, 0), x.count(7)}, 900, 2, 1, 3, 0);
        ShapePour y = new ShapePour();
        feed(y, b + "words abc;");
        row("3: all but its last", new long[] {y.page(899), y.fault(0), y.fault(1)}, -32, 2, 899);
    }

    /** The first n bytes of THE TAPE (which is empty then) are THE PAGE */
    private static void firstBytesOfTheTape() {
        ShapePour x = new ShapePour();
        feed(x, HEAD + BOX + "#");
        due("3: what stands behind isn't read", x.page(AT + BOX.length()), 2);
        due("3: it goes", x.count(7), 0);
        feed(x, HEAD + BOX + "#");
        row("3: one more is", new long[] {x.page(AT + BOX.length() + 1), x.fault(1)}, -31, AT + BOX.length());
        feed(x, HEAD);
        row("3: none of it", new long[] {x.page(0), x.fault(0), x.fault(1), x.count(7)}, -32, 2, 0, 0);
        row("3: none of an empty one", new long[] {x.page(0), x.fault(0), x.fault(1)}, -32, 2, 0);
    }

    /** -3: n is below 0 or above what there is (THE TAPE stays) */
    private static void belowZeroOrAbove() {
        ShapePour x = new ShapePour();
        row("3: of an empty tape", new long[] {x.page(1), x.page(-1), x.page(900)}, -3, -3, -3);
        feed(x, HEAD + BOX);
        int n = x.count(7);
        row("3: refused", new long[] {x.page(n + 1), x.page(901), x.page(-1), x.page(Integer.MIN_VALUE), x.page(Integer.MAX_VALUE)}, -3, -3, -3, -3, -3);
        row("3: the tape stays", new long[] {x.count(7), x.page(n), x.count(0)}, n, 2, 1);
    }

    /** THE TAPE (which is empty then): with a fault, too */
    private static void tapeIsEmptyThen() {
        ShapePour x = new ShapePour();
        feed(x, HEAD);
        row("3: read", new long[] {x.page(AT), x.count(7), x.page(1)}, 1, 0, -3);
        feed(x, "#");
        row("3: read with a fault", new long[] {x.page(1), x.count(7), x.page(1)}, -31, 0, -3);
        feed(x, HEAD);
        due("3: the next one begins anew", x.page(AT), 1);
    }

    /** no WORD is hidden, nothing can be UNDONE */
    private static void noneHiddenNoneUndone() {
        ShapePour x = Check.on(HEAD + BOX + "words a b;");
        x.hide(1);
        x.move(0, 0, 1);
        x.tie(0, 0);
        x.ink(4);
        due("3: the same once more", Texts.page(x, HEAD + BOX + "words a b;"), 3);
        row("3: as told", new long[] {x.count(3), x.count(6), x.undo(1), x.count(4), x.count(2), x.shape(0, 1), x.word(1, 2)}, 0, 0, -3, 0, 0, 0, 0);
    }

    /** how many LINES (page, too) */
    private static void howManyLines() {
        due("3: page alone", Texts.page(new ShapePour(), HEAD), 1);
        due("3: each line", Texts.page(new ShapePour(), HEAD + BOX + CIRCLE + WEDGE + "tie 0 1;words a;wide:1;gap:1;"), 8);
        StringBuilder b = new StringBuilder(HEAD);
        for (int i = 0; i < 142; i++) {
            b.append("words;");
        }
        ShapePour x = new ShapePour();
        row("3: very many", new long[] {Texts.page(x, b.toString()), x.count(8)}, 143, 143);
    }

    /** all stays with a FAULT */
    private static void allStaysWithAFault() {
        String[] faulty = {"#", "", "page wide 99 lines 9 high 9 least 9 ink 9;" + BOX + BOX + "words c d e f;tie 0 3;wide:9;gap:9",
            "page wide 99 lines 9 high 9 least 9 ink 9;words abcdefghijklm", HEAD + "words " + "a ".repeat(31) + ";"};
        for (String text : faulty) {
            ShapePour x = Check.on("page wide 20 lines 2 high 3 least 4 ink 5;box 1 2 3 4;tie 0 1;words aa bb;wide:7;gap:1;");
            x.hide(0);
            x.move(0, 0, 2);
            due("3: has a fault", Texts.page(x, text) < -30 ? 1 : 0, 1);
            row("3: the page stays", new long[] {x.set(0), x.set(1), x.set(2), x.set(3), x.count(2), x.count(0), x.count(1), x.count(8)},
                20, 2, 3, 4, 5, 1, 2, 6);
            row("3: what was done stays", new long[] {x.count(3), x.count(4), x.count(6), x.shape(0, 1), x.shape(0, 3), x.word(1, 1)}, 1, 1, 2, 3, 1, 7);
            // Word 1 lies in line 0: the box goes to Y 2, in line 0 with a gap of 1.
            row("3: the setting stays", new long[] {x.shape(0, 4), x.span(0, 0, 0), x.span(0, 0, 1), x.lies(1, 1)}, 2, 2, 7, 7);
            row("3: it can be undone", new long[] {x.undo(2), x.count(3), x.shape(0, 1)}, 0, 0, 1);
        }
    }

    /** Of the latest page() that was read: its FAULT (0), its place (NONE) */
    private static void faultOfTheLatest() {
        ShapePour x = new ShapePour();
        row("4: none was read", new long[] {x.fault(0), x.fault(1)}, 0, -1);
        Texts.page(x, "pag");
        row("4: a fault", new long[] {x.fault(0), x.fault(1)}, 2, 0);
        x.page(1);
        x.page(-1);
        row("4: refused ones were not read", new long[] {x.fault(0), x.fault(1)}, 2, 0);
        Texts.page(x, HEAD);
        row("4: no fault", new long[] {x.fault(0), x.fault(1)}, 0, -1);
        x.page(1);
        row("4: still none", new long[] {x.fault(0), x.fault(1)}, 0, -1);
        Texts.page(x, HEAD + "box 201");
        row("4: the next one", new long[] {x.fault(0), x.fault(1)}, 3, AT + 4);
        x.image(0);
        Texts.page(x, HEAD);
        x.restore(0);
        row("4: no image brings it back", new long[] {x.fault(0), x.fault(1)}, 0, -1);
    }

    /** NONE for others. */
    private static void faultNoneForOthers() {
        ShapePour x = new ShapePour();
        Texts.page(x, "#");
        row("4: others", new long[] {x.fault(2), x.fault(-1), x.fault(Integer.MAX_VALUE), x.fault(Integer.MIN_VALUE)}, -1, -1, -1, -1);
    }

    /** set: -2. */
    private static void setTellsThePage() {
        ShapePour x = Check.on("page wide 11 lines 12 high 13 least 14 ink 5;");
        row("5: told", new long[] {x.set(0), x.set(1), x.set(2), x.set(3)}, 11, 12, 13, 14);
        row("5: no such", new long[] {x.set(4), x.set(-1), x.set(Integer.MAX_VALUE), x.set(Integer.MIN_VALUE)}, -2, -2, -2, -2);
        x.ink(6);
        due("5: not by an ink", x.set(3), 14);
    }

    // ---- the text

    /** A number there: one too small, the least, the greatest, one too great, four digits, none. */
    private static void bounds(String ahead, int least, int most, String behind) {
        int place = ahead.length();
        if (least > 0) {
            fault(ahead + (least - 1) + behind, 3, place);
        }
        fine(ahead + least + behind);
        fine(ahead + most + behind);
        fault(ahead + (most + 1) + behind, 3, place);
        if (most < 999) {
            fault(ahead + 999 + behind, 3, place);
        }
        fault(ahead + 1000 + behind, 1, place);
        fault(ahead + "x" + behind, 2, place);
        fault(ahead + "-" + behind, 2, place);
        fault(ahead, 2, place);
    }

    /** WIDE 10 to 200, LINES 1 to 20, HIGH 1 to 20, LEAST 1 to 50, INK 0 to 9 */
    private static void numbersOfThePage() {
        bounds("page wide ", 10, 200, " lines 2 high 3 least 4 ink 5;");
        bounds("page wide 10 lines ", 1, 20, " high 3 least 4 ink 5;");
        bounds("page wide 10 lines 2 high ", 1, 20, " least 4 ink 5;");
        bounds("page wide 10 lines 2 high 3 least ", 1, 50, " ink 5;");
        bounds("page wide 10 lines 2 high 3 least 4 ink ", 0, 9, ";");
    }

    /** X 0 to 200, Y 0 to 400, all others 1 to 200 (radius, half of a foot: 1 to 100) */
    private static void numbersOfOutlines() {
        bounds(HEAD + "box ", 0, 200, " 2 3 4;");
        bounds(HEAD + "box 1 ", 0, 400, " 3 4;");
        bounds(HEAD + "box 1 2 ", 1, 200, " 4;");
        bounds(HEAD + "box 1 2 3 ", 1, 200, ";");
        bounds(HEAD + "circle ", 0, 200, " 2 3;");
        bounds(HEAD + "circle 1 ", 0, 400, " 3;");
        bounds(HEAD + "circle 1 2 ", 1, 100, ";");
        bounds(HEAD + "wedge ", 0, 200, " 2 3 4;");
        bounds(HEAD + "wedge 1 ", 0, 400, " 3 4;");
        bounds(HEAD + "wedge 1 2 ", 1, 100, " 4;");
        bounds(HEAD + "wedge 1 2 3 ", 1, 200, ";");
    }

    /** SHAPES, all kinds together: 6 at most / 4: the first TOKEN of a 7th shape */
    private static void sixShapesAtMost() {
        String six = HEAD + BOX + CIRCLE + WEDGE + WEDGE + BOX + CIRCLE;
        due("3: six", fine(six).count(0), 6);
        for (String seventh : new String[] {BOX, CIRCLE, WEDGE, "box", "circle #", "wedge 999"}) {
            fault(six + seventh, 4, six.length());
        }
        due("3: other lines can be", fine(six + "tie 5 0;words a;wide:1;gap:1;").count(8), 11);
        ShapePour x = Check.on(six);
        Texts.page(x, six + BOX);
        due("3: the six stay", x.count(0), 6);
        Texts.page(x, six);
        due("3: six once more", x.fault(0), 0);
    }

    /** numbered from 0 on */
    private static void shapesAreNumbered() {
        ShapePour x = fine(HEAD + "box 9 1 1 1;words a;wedge 8 2 1 1;tie 0 0;circle 7 3 1;");
        row("6: in the order told", new long[] {x.shape(0, 1), x.shape(1, 1), x.shape(2, 1), x.shape(0, 2), x.shape(1, 2), x.shape(2, 2)}, 9, 8, 7, 1, 2, 3);
        row("6: kinds", new long[] {x.shape(0, 0), x.shape(1, 0), x.shape(2, 0), x.shape(3, 0)}, 0, 2, 1, -2);
    }

    /** tie: a SHAPE told ahead */
    private static void tieToOneToldAhead() {
        fault(HEAD + "tie 0 0;", 3, AT + 4);
        fault(HEAD + "tie 0 0;" + BOX, 3, AT + 4);
        fault(HEAD + BOX + "tie 1 0;" + BOX, 3, AT + BOX.length() + 4);
        String six = HEAD + BOX.repeat(6);
        due("6: the last one", fine(six + "tie 5 0;").shape(5, 3), 0);
        fault(six + "tie 6 0;", 3, six.length() + 4);
        fault(six + "tie 999 0;", 3, six.length() + 4);
        fault(six + "tie 0000 0;", 1, six.length() + 4);
        fault(six + "tie ;", 2, six.length() + 4);
    }

    /** a WORD's number, 0 to 29 */
    private static void tieToAWord() {
        bounds(HEAD + BOX + "tie 0 ", 0, 29, ";");
        row("6: a word that isn't", new long[] {fine(HEAD + BOX + "tie 0 29;").shape(0, 3), fine(HEAD + BOX + "tie 0 0;words a;").shape(0, 3)}, 29, 0);
    }

    /** a later one of that SHAPE strikes */
    private static void laterTieStrikes() {
        ShapePour x = fine(HEAD + BOX + BOX + BOX + "tie 0 1;tie 1 2;tie 0 3;tie 1 0;");
        row("6: the later one", new long[] {x.shape(0, 3), x.shape(1, 3), x.shape(2, 3), x.count(4)}, 3, 0, -1, 3);
    }

    /** 30 WORDS at most, in all such lines together / 4: the first TOKEN of a 31st WORD */
    private static void thirtyWordsAtMost() {
        String thirty = HEAD + "words" + " a".repeat(30);
        due("3: thirty", fine(thirty + ";").count(1), 30);
        fault(thirty + " bcd;", 4, thirty.length() + 1);
        fault(thirty + ";words bcd;", 4, thirty.length() + 7);
        due("3: none more", fine(thirty + ";words;").count(8), 3);
        String parted = HEAD + "words" + " a".repeat(15) + ";" + BOX + "words" + " b".repeat(14) + ";words z";
        ShapePour x = fine(parted + ";");
        row("3: together", new long[] {x.count(1), x.word(29, 0), x.word(30, 0)}, 30, 1, -2);
        fault(parted + " q;", 4, parted.length() + 1);
        fault(thirty + " 5;", 2, thirty.length() + 1);
        due("3: no words at all", fine(HEAD + "words;").count(1), 0);
    }

    /** of 1 to 12 small letters / 3: a WORD of more than 12 letters */
    private static void oneToTwelveLetters() {
        ShapePour x = fine(HEAD + "words a abcdefghijkl z;");
        row("7: 1, 12", new long[] {x.word(0, 0), x.word(1, 0), x.word(2, 0)}, 1, 12, 1);
        fault(HEAD + "words a abcdefghijklm z;", 3, AT + 8);
        fault(HEAD + "words " + "z".repeat(500) + ";", 3, AT + 6);
        fault(HEAD + "words A;", 1, AT + 6);
        fault(HEAD + "words aB;", 1, AT + 7);
    }

    /** any, those of words told here, too */
    private static void anyLetters() {
        ShapePour x = fine(HEAD + "words page wide lines high least ink box circle wedge tie words gap if then else end in;words size word first shape line not and or;");
        row("7: words", new long[] {x.count(1), x.word(0, 0), x.word(16, 0), x.word(24, 0)}, 25, 4, 2, 2);
        ShapePour y = fine("page wide 200 lines 1 high 1 least 1 ink 0;words a z m;wide:first;");
        row("7: from a to z", new long[] {y.word(0, 1), y.word(1, 1), y.word(2, 1)}, 1, 26, 13);
    }

    /** Later ones of wide, gap strike. */
    private static void laterLawsStrike() {
        ShapePour x = fine(HEAD + "wide:5;gap:2;words a;wide:7+1;" + BOX + "gap:ink;wide:9;");
        row("7, 8: the last ones", new long[] {x.word(0, 1), x.span(0, 0, 0), x.span(0, 0, 1)}, 9, 0, 1);
        ShapePour y = fine(HEAD + "words a;" + BOX + "gap:3;wide:5;");
        row("7, 8: of its own kind alone", new long[] {y.word(0, 1), y.span(0, 0, 0)}, 5, -3);
        Texts.page(y, HEAD + "words abc;" + BOX);
        row("7, 8: the next page has none", new long[] {y.word(0, 1), y.span(0, 0, 0)}, 3, 0);
    }

    /** are THE PAGE: nothing of the pages ahead of it stays, however many there were */
    private static void nothingOfThePageAhead() {
        ShapePour x = new ShapePour();
        for (int i = 0; i < 12; i++) {
            // Four pages with all, four without, four with all.
            if (i / 4 == 1) {
                due("3: bare", Texts.page(x, "page wide 10 lines 1 high 1 least 1 ink 4;box 9 9 1 1;words abc;"), 3);
                row("3: no laws, no ties, no more", new long[] {x.word(0, 1), x.span(0, 0, 0), x.shape(0, 3), x.shape(0, 4), x.count(4), x.count(0), x.count(1), x.count(2)},
                    3, -99000001, -1, 9, 0, 1, 1, 4);
                row("3: no gap", new long[] {x.move(0, 1, -9), x.span(0, 0, 0), x.span(0, 0, 1)}, 0, 9, 10);
            } else {
                due("3: all", Texts.page(x, "page wide 20 lines 2 high 5 least 3 ink 4;box 9 0 1 1;box 1 1 1 1;tie 0 0;tie 1 1;words a b;wide:5;gap:2+line;"), 8);
                row("3: all", new long[] {x.word(0, 1), x.span(0, 0, 0), x.shape(0, 3), x.shape(1, 3), x.count(4), x.count(0), x.count(1), x.count(2)},
                    5, 7, 0, 1, 3, 2, 2, 4);
                x.hide(1);
            }
        }
    }

    // ---- tokens

    /** between them blanks (10, 32) */
    private static void blanksBetween() {
        fine("\n \n page\nwide  10 lines\n\n1 high 1 least 1 ink 0 ;\n");
        fine("page wide 10 lines 1 high 1 least 1 ink 0\n;\n\n" + "box\n0\n0\n1\n1\n;");
        for (int c : new int[] {0, 9, 11, 12, 13, 31, 33, 127, 160, 255}) {
            fault("page" + (char) c + "wide 10", 1, 4);
            fault((char) c + HEAD, 1, 0);
            fault(HEAD + (char) c, 1, AT);
        }
    }

    /** as long as they go on */
    private static void tokensAsLongAsTheyGoOn() {
        fine("page wide10lines1high1least1ink0;box0 0 1 1;words a;wide:if1=1then2else3end;gap:(1)*(2);");
        fault("pagewide 10", 2, 0);
        fault("pa ge wide", 2, 0);
        fault("page wide 1 0 lines", 3, 10);
        fault("page wide 10 0 lines", 2, 13);
        fault("page wide 1 000", 3, 10);
        fault(HEAD + "boxes 0 0 1 1;", 2, AT);
        fault(HEAD + "box 0 01 1;", 2, AT + 10);
        row("7: two, then one", new long[] {fine(HEAD + "words ab c;").count(1), fine(HEAD + "words abc;").count(1)}, 2, 1);
    }

    /** words (small letters), N, the signs; 1: no TOKEN begins so */
    private static void everyByte() {
        for (int c = 0; c < 256; c++) {
            String text = HEAD + " " + (char) c;
            boolean token = c >= 'a' && c <= 'z' || c >= '0' && c <= '9' || ";:+-*()[]=<>".indexOf(c) >= 0;
            if (c == 10 || c == 32) {
                fine(text);
            } else {
                fault(text, token ? 2 : 1, AT + 1);
            }
            if (!token && c != 10 && c != 32) {
                fault(HEAD + "words ab" + (char) c + "cd;", 1, AT + 8);
                fault(HEAD + "box 1" + (char) c, 1, AT + 5);
            }
        }
    }

    /** N (1 to 3 digits); 1: 4 digits and more: at their first */
    private static void oneToThreeDigits() {
        due("5: leading ones", fine("page wide 012 lines 001 high 01 least 1 ink 000;").set(0), 12);
        fault("page wide 0012 lines", 1, 10);
        fault("page wide 1234567890123 lines", 1, 10);
        fault(HEAD + "words 1000", 1, AT + 6);
        fault(HEAD + "wide : 1000", 1, AT + 7);
        fault(HEAD + "wide : 1 + 0000 ;", 1, AT + 11);
        fine(HEAD + "wide : 999 + 000;");
        fault(HEAD + "box 4294967296 0 1 1;", 1, AT + 4);
    }

    // ---- faults

    /** of one TOKEN the least kind */
    private static void theLeastKind() {
        // 1 ahead of 2: four digits, a byte of no token, where they can't stand either.
        fault("1000", 1, 0);
        fault(HEAD + "2000;", 1, AT);
        fault(HEAD + "box ? ", 1, AT + 4);
        // 1 ahead of 3: four digits out of bounds.
        fault(HEAD + "box 9999", 1, AT + 4);
        // 2 ahead of 3: out of bounds, and can't stand there; more than 12 letters, too.
        fault(HEAD + "box 0 0 1 1 999", 2, AT + 12);
        fault("page 5", 2, 5);
        fault(HEAD + "abcdefghijklmnop", 2, AT);
        // 2 ahead of 4: can't stand there, and would be the seventh.
        fault(HEAD + "gap : ((((((not", 2, AT + 12);
        fault(HEAD + "gap : (((((([", 2, AT + 12);
        fault(HEAD + "wide : if [[[[[ not", 4, AT + 16);
        // 3 ahead of 4: a 31st word of more than 12 letters.
        fault(HEAD + "words" + " a".repeat(30) + " abcdefghijklm;", 3, AT + 66);
        fault(HEAD + "words" + " a".repeat(30) + " abcdefghijkl;", 4, AT + 66);
    }

    /** the first along the text */
    private static void theFirstAlongTheText() {
        fault("page wide 9 #", 3, 10);
        fault("page wide # 9", 1, 10);
        fault("page lines 1000", 2, 5);
        fault(HEAD + BOX.repeat(6) + "box #", 4, AT + 72);
        fault(HEAD + "words" + " a".repeat(31) + " #", 4, AT + 66);
        fault(HEAD + "words abcdefghijklm #", 3, AT + 6);
        fault(HEAD + "box 201 401 0 0;", 3, AT + 4);
        fault(HEAD + "box 200 401 0 0;", 3, AT + 8);
        fault(HEAD + "box 200 400 0 0;", 3, AT + 12);
        fault(HEAD + "box 200 400 1 0;", 3, AT + 14);
        fault(HEAD + "tie 9 99;", 3, AT + 4);
        fault(HEAD + "wide : size + shape + #", 2, AT + 14);
        fault(HEAD + "wide : size size ( (", 2, AT + 12);
        fault("page wide 10 lines 1 high 1 least 1 ink 0 0000;", 1, 42);
    }

    /** the end: the text's length */
    private static void theEndIsTheLength() {
        fault("", 2, 0);
        fault(" ", 2, 1);
        fault("\n\n\n", 2, 3);
        fault("page", 2, 4);
        fault("page  ", 2, 6);
        fault(HEAD.substring(0, AT - 1), 2, AT - 1);
        fault(HEAD + "words", 2, AT + 5);
        fault(HEAD + "words a \n ", 2, AT + 10);
        fault(HEAD + "gap : (((((( ", 2, AT + 13);
        // Behind ; the end can stand.
        fine(HEAD + "  ");
    }

    /** page must be told first, and once */
    private static void pageFirstAndOnce() {
        fault(";" + HEAD, 2, 0);
        fault("words a;" + HEAD, 2, 0);
        fault("wide : 1;", 2, 0);
        fault(HEAD + HEAD, 2, AT);
        fault(HEAD + "words a;" + HEAD, 2, AT + 8);
        fault(HEAD + "words a;page", 2, AT + 8);
    }

    /** a word of the other law */
    private static void wordsOfTheOtherLaw() {
        for (String name : new String[] {"size", "word", "first"}) {
            fine(HEAD + "wide : 1 + " + name + ";");
            fault(HEAD + "gap : 1 + " + name + ";", 2, AT + 10);
            fault(HEAD + "gap : if " + name, 2, AT + 9);
        }
        for (String name : new String[] {"shape", "line"}) {
            fine(HEAD + "gap : 1 + " + name + ";");
            fault(HEAD + "wide : 1 + " + name + ";", 2, AT + 11);
            fault(HEAD + "wide : (" + name, 2, AT + 8);
        }
        fine(HEAD + "wide : ink;gap : ink;");
        fault(HEAD + "wide : wide;", 2, AT + 7);
        fault(HEAD + "gap : gap;", 2, AT + 6);
    }

    /** 2: it can't stand there, at each token of each line */
    private static void eachTokenOfALine() {
        String[] lines = {"box 1 2 3 4 ;", "circle 1 2 3 ;", "wedge 1 2 3 4 ;", "tie 0 1 ;", "wide : size + ( word - 1 ) * 2 ;",
            "gap : if not [ line = 1 or shape > 0 ] and ink < 2 then 3 else 4 end * 5 ;"};
        String ahead = HEAD + BOX;
        for (String line : lines) {
            String[] tokens = line.split(" ");
            StringBuilder told = new StringBuilder(ahead);
            for (int i = 0; i < tokens.length; i++) {
                if (i > 0) {
                    fault(told.toString(), 2, told.length());
                }
                fault(told + "page", 2, told.length());
                fault(told + "high", 2, told.length());
                if (!tokens[i].equals(":")) {
                    fault(told + ":", 2, told.length());
                }
                fault(told + "?", 1, told.length());
                told.append(tokens[i]).append(' ');
            }
            fine(told.toString());
        }
        String[] head = HEAD.replace(";", " ;").split(" ");
        StringBuilder told = new StringBuilder();
        for (String token : head) {
            fault(told.toString(), 2, told.length());
            fault(told + "then", 2, told.length());
            fault(told + "=", 2, told.length());
            told.append(token).append(' ');
        }
        fine(told.toString());
    }

    // ---- depths

    /** At most six of not [ ( if within one another; 4: a seventh of them */
    private static void sixWithinOneAnother() {
        String[][] openings = {{"(", ")"}, {"if 1 = 1 then ", " else 2 end"}, {"if 1 = 1 then 2 else ", " end"}};
        for (String[] o : openings) {
            fine(HEAD + "wide : " + o[0].repeat(6) + "3" + o[1].repeat(6) + ";");
            String six = HEAD + "wide : " + o[0].repeat(6);
            fault(six + "(3);", 4, six.length());
            fault(six + "if 1 = 1", 4, six.length());
        }
        fine(HEAD + "wide : if " + "not ".repeat(5) + "1 = 1 then 2 else 3 end;");
        String nots = HEAD + "wide : if " + "not ".repeat(5);
        fault(nots + "not 1", 4, nots.length());
        fault(nots + "[ 1", 4, nots.length());
        fault(nots + "( 1", 4, nots.length());
        fault(nots + "if 1", 4, nots.length());
        fine(HEAD + "wide : if [[[[[1=1]]]]] then 2 else 3 end;");
        String squares = HEAD + "wide : if [[[[[";
        fault(squares + "[", 4, squares.length());
        fault(squares + "not", 4, squares.length());
        fault(squares + "(", 4, squares.length());
        fault(squares + "if", 4, squares.length());
        // One of each, and six of all: what stands in then, else and behind = is within the if as well.
        fine(HEAD + "wide : ( if not [ ( if 1 = 2 then 3 else 4 end ) = 5 ] then 6 else 7 end );");
        String mixed = HEAD + "wide : ( if not [ ( if 1 = ";
        fault(mixed + "( 2", 4, mixed.length());
        String last = HEAD + "gap : ((((( if 1 = 1 then 1 else ";
        fault(last + "(", 4, last.length());
    }

    /** within one another: those that are closed count no more */
    private static void besideOneAnother() {
        fine(HEAD + "wide : " + "((((((1)))))) + ".repeat(9) + "((((((1))))));");
        fine(HEAD + "wide : if [[[[[1=1]]]]] and [[[[[1=1]]]]] or not not not not not 1=1 and not not not not not 1=1 then 2 else (((((3))))) end;");
        fine(HEAD + "gap : if 1=1 then (((((1))))) * (((((1))))) else (((((1))))) end + ((((((1))))));");
    }
}
