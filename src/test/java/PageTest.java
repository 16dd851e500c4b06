/** Promises 1 to 11: the tape, the page and its faults, the laws, spans, slots, where words lie. */
public final class PageTest {
    private static final Check CHECK = new Check();
    private static final String HEAD = "page wide 10 lines 1 high 1 least 1 ink 0;";
    private static final int AT = HEAD.length();
    private static final String BOX = "box 0 0 1 1;";

    public static void main(String[] args) {
        newObject();
        feed();
        page();
        pageKeepsAllWithFault();
        tokens();
        lines();
        laws();
        depths();
        shapesAndWords();
        widths();
        boxSpans();
        circleSpans();
        wedgeSpans();
        gaps();
        slots();
        lies();
        CHECK.end();
    }

    private static void due(String what, long got, long want) {
        CHECK.due(what, got, want);
    }

    private static void newObject() {
        ShapePour x = new ShapePour();
        int[] due = {0, 0, 0, 0, 0, 10, 0, 0, 0};
        for (int what = 0; what < due.length; what++) {
            due("1: count(" + what + ")", x.count(what), due[what]);
        }
        CHECK.row("1: set", new long[] {x.set(0), x.set(1), x.set(2), x.set(3)}, 40, 10, 5, 4);
        CHECK.row("5: no such", new long[] {x.set(-1), x.set(4)}, -2, -2);
        CHECK.row("4: fault, ahead of all pages", new long[] {x.fault(0), x.fault(1), x.fault(2), x.fault(-1)}, 0, -1, -1, -1);
        CHECK.row("1: slot", new long[] {x.slot(9, 0, 0), x.slot(9, 0, 1)}, 0, 40);
        due("1: no image", x.restore(1), -5);
        for (int tray = 0; tray < 4; tray++) {
            due("1: tray missing", x.lists(tray), -6);
        }
    }

    private static void feed() {
        ShapePour x = new ShapePour();
        for (int i = 1; i <= 45; i++) {
            due("2: feed", x.feed(0x20202020, 0x20202020, 0x20202020, 0x20202020, 0x20202020), 20 * i);
        }
        due("2: feed 901", x.feed(0, 0, 0, 0, 0), -5);
        due("2: tape stays", x.count(7), 900);
        due("3: 900 blanks", x.page(900), -32);
        due("4: the end", x.fault(1), 900);
        due("3: tape is empty", x.count(7), 0);
        // "page" in the first int, a sign with the highest bit in the last byte.
        x.feed(0x70616765, 0x20202020, 0x20202020, 0x20202020, 0x202020ff);
        due("2: highest first", x.page(20), -31);
        due("2: byte 255", x.fault(1), 19);
    }

    private static void page() {
        ShapePour x = new ShapePour();
        for (int[] f : Texts.fives(HEAD + BOX + "words aa bb;")) {
            x.feed(f[0], f[1], f[2], f[3], f[4]);
        }
        due("3: below 0", x.page(-1), -3);
        due("3: above", x.page(81), -3);
        due("3: tape stays", x.count(7), 80);
        due("3: how many lines", x.page(AT + BOX.length() + 12), 3);
        due("3: tape is empty", x.count(7), 0);
        due("46: lines", x.count(8), 3);
        due("3: nothing there", x.page(1), -3);
        due("3: nothing", x.page(0), -32);
        due("4: its place", x.fault(1), 0);
        x.hide(1);
        due("3: again", Texts.page(x, HEAD + "words aa bb;"), 2);
        CHECK.row("3: none hidden, none undone", new long[] {x.count(3), x.count(6), x.count(0)}, 0, 0, 0);
        due("3: page alone", Texts.page(x, "page wide 200 lines 20 high 20 least 50 ink 9 ;"), 1);
        CHECK.row("5: greatest", new long[] {x.set(0), x.set(1), x.set(2), x.set(3), x.count(2)}, 200, 20, 20, 50, 9);
        for (int[] f : Texts.fives(HEAD + "? what stands behind n is not read ?")) {
            x.feed(f[0], f[1], f[2], f[3], f[4]);
        }
        due("3: the first n", x.page(AT), 1);
        due("3: the rest is gone", x.count(7), 0);
        cut("page wide 10", 11, 3, 10);
        cut("page wide 1000", 12, 2, 12);
        cut("page", 3, 2, 0);
        cut(HEAD + "words abcdefghijklm", AT + 18, 2, AT + 18);
    }

    /** The text ends behind n bytes, whatever follows on the tape. */
    private static void cut(String text, int n, int kind, int place) {
        ShapePour x = new ShapePour();
        for (int[] f : Texts.fives(text)) {
            x.feed(f[0], f[1], f[2], f[3], f[4]);
        }
        CHECK.row("3, 4: cut " + text, new long[] {x.page(n), x.fault(0), x.fault(1)}, -30 - kind, kind, place);
    }

    private static void pageKeepsAllWithFault() {
        ShapePour x = Check.on(HEAD + BOX + "words aa bb;");
        x.hide(1);
        x.move(0, 0, 3);
        due("3: fault", Texts.page(x, "page wide 50 lines 2 high 3 least 4 ink 5;box 1 1 1 1;box 1 1 1 1;wards"), -32);
        CHECK.row("3: all stays", new long[] {x.set(0), x.count(0), x.count(1), x.count(3), x.count(6), x.count(8), x.shape(0, 1)},
            10, 1, 2, 2, 2, 3, 3);
        due("3: not read", x.page(5), -3);
        due("4: of the latest that was read", x.fault(0), 2);
        due("4: place", x.fault(1), 66);
        due("3: undone", x.undo(2), 0);
        due("3: tape", Texts.page(x, HEAD), 1);
        CHECK.row("4: no fault", new long[] {x.fault(0), x.fault(1)}, 0, -1);
    }

    private static void fault(String text, int kind, int place) {
        ShapePour x = new ShapePour();
        due("3: page " + text, Texts.page(x, text), -30 - kind);
        due("4: fault of " + text, x.fault(0), kind);
        due("4: place in " + text, x.fault(1), place);
    }

    private static void fine(String text, int lines) {
        ShapePour x = new ShapePour();
        due("3: page " + text, Texts.page(x, text), lines);
        due("4: fault of " + text, x.fault(0), 0);
    }

    private static void tokens() {
        fine("page wide10lines1high1least1ink0;", 1);
        fine("\n page\nwide 010 lines 001\n\nhigh 1 least 1 ink 0 \n;\n  ", 1);
        fine(HEAD + "box0 0 1 1;", 2);
        fault("Page", 1, 0);
        fault("\tpage", 1, 0);
        fault("page\rwide", 1, 4);
        fault("page wide 10 #", 1, 13);
        fault("page wide 1000 lines", 1, 10);
        fault("page 1000", 1, 5);
        fault("page wide 12345", 1, 10);
        fault("page wide 0010", 1, 10);
        fault("page \0", 1, 5);
        fault("page " + (char) 1, 1, 5);
        fault("page " + (char) 225, 1, 5);
        fault("page wide 10 lines 1 high 1 least 1 ink 0 ,", 1, 42);
        fault(HEAD + "  {", 1, AT + 2);
        fault(HEAD + "words a2 ;", 2, AT + 7);
    }

    private static void lines() {
        fault("", 2, 0);
        fault("   ", 2, 3);
        fault("pagewide 10", 2, 0);
        fault("pages wide 10", 2, 0);
        fault("box 0 0 1 1;" + HEAD, 2, 0);
        fault("page lines 1", 2, 5);
        fault("page 999 #", 2, 5);
        fault("page wide lines", 2, 10);
        fault("page wide 9 #", 3, 10);
        fault("page wide 10 lines 0", 3, 19);
        fault("page wide 10 lines 20 high 0", 3, 27);
        fault("page wide 10 lines 1 high 1 least 0", 3, 34);
        fault("page wide 10 lines 1 high 1 least 1 ink 10", 3, 40);
        fault("page wide 10 lines 1 high 1 least 1 ink 0 0", 2, 42);
        fault(HEAD + ";", 2, AT);
        fault(HEAD + "page", 2, AT);
        fault(HEAD + "wedges 0 0 1 1;", 2, AT);
        fault(HEAD + "fox 0 0 1 1;", 2, AT);
        fault(HEAD + "bax 0 0 1 1;", 2, AT);
        fault(HEAD + "boxx 0 0 1 1;", 2, AT);
        fault(HEAD + "bo 0 0 1 1;", 2, AT);
        fault(HEAD + "circle 0 0 1 1;", 2, AT + 13);
        fault(HEAD + "circle 0 0 0;", 3, AT + 11);
        fine(HEAD + "circle 200 400 100;wedge 200 400 100 200;box 200 400 200 200;", 4);
        fault(HEAD + "wedge 0 0 1 201;", 3, AT + 12);
        fault(HEAD + "wedge 0 0 1 0;", 3, AT + 12);
        fault(HEAD + "box 0 0 201 1;", 3, AT + 8);
        fault(HEAD + "box 0 0 1 1", 2, AT + 11);
        fault(HEAD + "box 0 0 1 1  ", 2, AT + 13);
        fault(HEAD + BOX + "tie 1 0;", 3, AT + 16);
        fault(HEAD + BOX + "tie 0 0 0;", 2, AT + 20);
        fine(HEAD + BOX + "tie 0 29;tie 0 0;", 4);
        fault(HEAD + BOX + BOX + BOX + BOX + BOX + BOX + "circle #", 4, AT + 72);
        fine(HEAD + BOX + BOX + BOX + BOX + BOX + BOX + "tie 5 3;", 8);
        fine(HEAD + "words;words a b;words;", 4);
        fine(HEAD + "words page box if tie words abcdefghijkl;", 2);
        fault(HEAD + "words abcdefghijklm;", 3, AT + 6);
        fault(HEAD + "words " + "a ".repeat(30) + "bcdefghijklmn;", 3, AT + 66);
        fault(HEAD + "words " + "a ".repeat(30) + ";words bc;", 4, AT + 73);
        fine(HEAD + "words " + "a ".repeat(30) + ";", 2);
        fault(HEAD + "words a b", 2, AT + 9);
        fault(HEAD + "words a : b;", 2, AT + 8);
    }

    private static void laws() {
        fine(HEAD + "wide:ink+size-word*first;gap : ink + shape * line;wide:1;", 4);
        fault(HEAD + "wide : line;", 2, AT + 7);
        fault(HEAD + "wide : shape;", 2, AT + 7);
        fault(HEAD + "gap : size;", 2, AT + 6);
        fault(HEAD + "gap : word;", 2, AT + 6);
        fault(HEAD + "gap : first;", 2, AT + 6);
        fault(HEAD + "gap : inks;", 2, AT + 6);
        fault(HEAD + "gap ;", 2, AT + 4);
        fault(HEAD + "gap : ;", 2, AT + 6);
        fault(HEAD + "gap : - 1;", 2, AT + 6);
        fault(HEAD + "gap : 1 1;", 2, AT + 8);
        fault(HEAD + "gap : 1 = 1;", 2, AT + 8);
        fault(HEAD + "gap : [ 1 = 1 ];", 2, AT + 6);
        fault(HEAD + "gap : not 1;", 2, AT + 6);
        fault(HEAD + "gap : ( 1 + 2;", 2, AT + 13);
        fault(HEAD + "gap : if 1 then 2 else 3 end;", 2, AT + 11);
        fault(HEAD + "gap : if 1 = 1 else 3 end;", 2, AT + 15);
        fault(HEAD + "gap : if 1 = 1 then 3 end;", 2, AT + 22);
        fault(HEAD + "gap : if 1 = 1 then 3 else 4;", 2, AT + 28);
        fault(HEAD + "gap : if ( 1 = 1 ) then 3 else 4 end;", 2, AT + 13);
        fault(HEAD + "gap : if [ 1 = 1 then 3 else 4 end;", 2, AT + 17);
        fault(HEAD + "gap : if 1 = 1 = 1 then 3 else 4 end;", 2, AT + 15);
        fault(HEAD + "gap : if not not 1 = 1 and or then 3 else 4 end;", 2, AT + 27);
        fault(HEAD + "gap : 1 * ", 2, AT + 10);
        fine(HEAD + "gap : if [ [ 1 = 1 ] ] and not [ ( 1 ) < 2 or 3 > ( line ) ] then 999 else 000 end * 3;", 2);
    }

    private static void depths() {
        fine(HEAD + "gap : ((((((1))))));", 2);
        fine(HEAD + "gap : ((((((1)))))) + ((((((1))))));", 2);
        fault(HEAD + "gap : (((((((1)))))));", 4, AT + 12);
        fault(HEAD + "gap : ((((((if 1", 4, AT + 12);
        fault(HEAD + "gap : (((((([", 2, AT + 12);
        fine(HEAD + "gap : if not not not not not 1 = 1 and not not not not not 1 = 1 then ((((( 1 ))))) else 1 end;", 2);
        fault(HEAD + "gap : if not not not not not not 1 = 1", 4, AT + 29);
        fault(HEAD + "gap : if not not not not not ( 1", 4, AT + 29);
        fault(HEAD + "gap : if [[[[[[ 1", 4, AT + 14);
        fine(HEAD + "gap : if [[[[[ 1 = 1 ]]]]] then 1 else 2 end;", 2);
        fault(HEAD + "gap : if 1 = 1 then 1 else ((((((1", 4, AT + 32);
        // All that can wait at once, six deep.
        StringBuilder deep = new StringBuilder("1 + 1 * ");
        for (int i = 0; i < 6; i++) {
            deep.append("if 1 = 2 or 1 = 1 and 1 < 2 + 1 * ");
        }
        deep.append("1");
        for (int i = 0; i < 6; i++) {
            deep.append(" then 7 else 9 end");
        }
        ShapePour x = Check.on(HEAD + "words a;wide:" + deep + ";");
        // The innermost: 1 < 3, so 7; each one further out: 1 < 2 + 7; outside 1 + 7.
        due("7: six deep", x.word(0, 1), 8);
    }

    private static void shapesAndWords() {
        ShapePour x = Check.on("page wide 30 lines 4 high 5 least 2 ink 3;wedge 9 8 7 6;circle 1 2 3;box 200 400 200 200;tie 1 7;tie 1 0;words ab c;");
        CHECK.row("6: kinds", new long[] {x.shape(0, 0), x.shape(1, 0), x.shape(2, 0)}, 2, 1, 0);
        CHECK.row("6: x, y", new long[] {x.shape(0, 1), x.shape(0, 2), x.shape(2, 1), x.shape(2, 2)}, 9, 8, 200, 400);
        CHECK.row("6: tied", new long[] {x.shape(0, 3), x.shape(1, 3), x.shape(2, 3)}, -1, 0, -1);
        CHECK.row("6: refused", new long[] {x.shape(3, 0), x.shape(-1, 0), x.shape(0, 5), x.shape(0, -1)}, -2, -2, -2, -2);
        CHECK.row("7: words", new long[] {x.word(0, 0), x.word(0, 1), x.word(1, 0), x.word(1, 2)}, 2, 2, 1, 0);
        CHECK.row("7: refused", new long[] {x.word(2, 0), x.word(-1, 0), x.word(0, 3), x.word(0, -1)}, -2, -2, -2, -2);
        x.hide(0);
        due("7: hidden", x.word(0, 2), 1);
        due("6: isn't there, its word is hidden", x.shape(1, 4), -1);
        due("8: isn't there", x.span(1, 0, 0), -99000001);
        x.move(0, 1, 4);
        CHECK.row("6: moved", new long[] {x.shape(0, 2), x.shape(0, 4)}, 12, 12);
        x.hide(0);
        x.tie(1, 29);
        due("6: isn't there, there is no such word", x.shape(1, 4), -1);
    }

    private static void wide(String law, long... due) {
        ShapePour x = Check.on("page wide 200 lines 4 high 5 least 2 ink 3;words a zz cde;wide:" + law + ";");
        CHECK.row("7: wide by " + law, new long[] {x.word(0, 1), x.word(1, 1), x.word(2, 1)}, due);
    }

    private static void widths() {
        wide("size", 1, 2, 3);
        wide("first", 1, 26, 3);
        wide("word + 1", 1, 2, 3);
        wide("ink", 3, 3, 3);
        wide("0", 1, 1, 1);
        wide("0 - 5 + word", 1, 1, 1);
        wide("999", 200, 200, 200);
        wide("word * 100", 1, 100, 200);
        wide("word * 101", 1, 101, 200);
        wide("2 + 3 * 4", 14, 14, 14);
        wide("10 - 3 - 2", 5, 5, 5);
        wide("10 - (3 - 2)", 9, 9, 9);
        wide("(2 + 3) * 4", 20, 20, 20);
        // 1,000,000 - 998,001 - 999 - 990
        wide("999 * 999 * 2 - 999 * 999 - 999 - 990", 10, 10, 10);
        // -1,000,000 + 998,001 + 999 + 999 + 11
        wide("0 - 999 * 999 - 999 * 999 + 999 * 999 + 999 + 999 + 11", 10, 10, 10);
        wide("(0 - 999) * 999 * 999 + 999 * 999 + 999 + 999 + 12", 11, 11, 11);
        wide("if word = 1 then 5 else 6 end", 6, 5, 6);
        wide("if word < 1 then 5 else 6 end", 5, 6, 6);
        wide("if word > 1 then 5 else 6 end", 6, 6, 5);
        wide("if 1 = 1 or 1 = 1 and 1 = 2 then 5 else 6 end", 5, 5, 5);
        wide("if [1 = 1 or 1 = 1] and 1 = 2 then 5 else 6 end", 6, 6, 6);
        wide("if not 1 = 2 and 1 = 2 then 5 else 6 end", 6, 6, 6);
        wide("if not [1 = 2 and 1 = 2] then 5 else 6 end", 5, 5, 5);
        wide("if not not word = 1 then 5 else 6 end * 2", 12, 10, 12);
        wide("if if word = 2 then 7 else 8 end = 7 then 5 else 6 end", 6, 6, 5);
        wide("9;wide:size", 1, 2, 3);
        ShapePour x = Check.on("page wide 200 lines 4 high 5 least 2 ink 3;words a;wide:ink*7;");
        x.ink(9);
        due("7: wide now", x.word(0, 1), 63);
    }

    private static long[] spans(ShapePour x, int s, int lines) {
        long[] all = new long[2 * lines];
        for (int line = 0; line < lines; line++) {
            all[2 * line] = x.span(s, line, 0);
            all[2 * line + 1] = x.span(s, line, 1);
        }
        return all;
    }

    private static final int NO = -99000001;

    private static void boxSpans() {
        ShapePour x = Check.on("page wide 20 lines 4 high 2 least 1 ink 0;box 5 2 3 2;box 18 1 200 1;box 0 3 1 2;");
        CHECK.row("8: box", spans(x, 0, 4), NO, NO, 5, 8, NO, NO, NO, NO);
        CHECK.row("8: box beyond", spans(x, 1, 4), 18, 218, NO, NO, NO, NO, NO, NO);
        CHECK.row("8: box in two", spans(x, 2, 4), NO, NO, 0, 1, 0, 1, NO, NO);
        CHECK.row("8: refused", new long[] {x.span(3, 0, 0), x.span(-1, 0, 0), x.span(0, 4, 0), x.span(0, -1, 0), x.span(0, 1, 2),
            x.span(0, 0, -1)}, -99000002, -99000002, -99000002, -99000002, -99000002, -99000002);
    }

    private static void circleSpans() {
        ShapePour x = Check.on("page wide 100 lines 6 high 10 least 1 ink 0;circle 50 25 20;circle 3 10 5;circle 50 25 15;");
        // Roots of 175 and 375 lie between 13 and 14, 19 and 20.
        CHECK.row("8: circle", spans(x, 0, 6), 36, 64, 30, 70, 30, 70, 30, 70, 36, 64, NO, NO);
        CHECK.row("8: circle at a foot", spans(x, 1, 6), -2, 8, -2, 8, NO, NO, NO, NO, NO, NO, NO, NO);
        // By 15 it is off: not less than its radius. The root of 200 lies between 14 and 15.
        CHECK.row("8: circle that touches", spans(x, 2, 6), NO, NO, 35, 65, 35, 65, 35, 65, NO, NO, NO, NO);
        for (int radius = 1; radius <= 100; radius += 3) {
            ShapePour y = Check.on("page wide 200 lines 20 high 5 least 1 ink 0;circle 77 100 " + radius + ";");
            for (int line = 0; line < 20; line++) {
                int d = 100 - 5 * line - 5;
                float half = d < radius ? (float) Math.sqrt((float) (radius * radius - d * d)) : -1;
                due("8: circle by floats", y.span(0, line, 0), half < 0 ? NO : (int) Math.floor(77 - half));
                due("8: circle by floats", y.span(0, line, 1), half < 0 ? NO : (int) Math.ceil(77 + half));
            }
        }
    }

    private static void wedgeSpans() {
        ShapePour x = Check.on("page wide 40 lines 4 high 2 least 1 ink 0;wedge 15 0 6 4;wedge 15 1 5 3;wedge 2 3 9 2;");
        CHECK.row("8: wedge", spans(x, 0, 4), 12, 18, 9, 21, NO, NO, NO, NO);
        CHECK.row("8: wedge between", spans(x, 1, 4), 13, 17, 10, 20, NO, NO, NO, NO);
        CHECK.row("8: wedge beyond", spans(x, 2, 4), NO, NO, -3, 7, -7, 11, NO, NO);
        for (int high = 1; high <= 200; high += 13) {
            ShapePour y = Check.on("page wide 200 lines 20 high 7 least 1 ink 0;wedge 101 3 97 " + high + ";");
            for (int line = 0; line < 20; line++) {
                boolean in = 3 + high > 7 * line;
                float half = (float) 97 * (Math.min(7 * line + 7, 3 + high) - 3) / high;
                due("8: wedge by floats", y.span(0, line, 0), in ? (int) Math.floor(101 - half) : NO);
                due("8: wedge by floats", y.span(0, line, 1), in ? (int) Math.ceil(101 + half) : NO);
            }
        }
    }

    private static void gap(String law, long... due) {
        ShapePour x = Check.on("page wide 100 lines 2 high 2 least 1 ink 3;box 50 0 1 4;box 60 0 1 4;gap:" + law + ";");
        long[] got = {50 - x.span(0, 0, 0), x.span(0, 0, 1) - 51, 50 - x.span(0, 1, 0), x.span(0, 1, 1) - 51,
            60 - x.span(1, 0, 0), x.span(1, 0, 1) - 61};
        CHECK.row("8: gap by " + law, got, due);
    }

    private static void gaps() {
        gap("0 - 1", 0, 0, 0, 0, 0, 0);
        gap("21", 20, 20, 20, 20, 20, 20);
        gap("20", 20, 20, 20, 20, 20, 20);
        gap("ink", 3, 3, 3, 3, 3, 3);
        gap("line * 2", 0, 0, 2, 2, 0, 0);
        gap("shape * 5 + 1", 1, 1, 1, 1, 6, 6);
        gap("7;gap:2", 2, 2, 2, 2, 2, 2);
    }

    private static void slots() {
        ShapePour x = Check.on("page wide 20 lines 5 high 2 least 3 ink 0;box 3 0 4 2;box 10 0 20 2;box 2 2 1 2;box 4 2 14 2;box 0 4 20 2;"
            + "box 5 6 10 2;words a;");
        CHECK.row("9: slots", new long[] {x.slots(0), x.slots(1), x.slots(2), x.slots(3), x.slots(4)}, 2, 0, 0, 2, 1);
        CHECK.row("10: slots", new long[] {x.slot(0, 0, 0), x.slot(0, 0, 1), x.slot(0, 1, 0), x.slot(0, 1, 1), x.slot(3, 1, 0),
            x.slot(3, 1, 1), x.slot(4, 0, 1)}, 0, 3, 7, 10, 15, 20, 20);
        CHECK.row("10: words in them", new long[] {x.slot(0, 0, 2), x.slot(0, 1, 2), x.slot(4, 0, 2)}, 1, 0, 0);
        CHECK.row("10: not so many", new long[] {x.slot(0, 2, 0), x.slot(1, 0, 1), x.slot(0, 2000000000, 2)}, -1, -1, -1);
        CHECK.row("9, 10: refused", new long[] {x.slots(-1), x.slots(5), x.slot(5, -1, 0), x.slot(-1, 0, 0), x.slot(0, -1, 3),
            x.slot(0, -1, -1), x.slot(0, -1, 2), x.slot(1, -5, 0)}, -2, -2, -2, -2, -2, -2, -3, -3);
        due("46: all slots", x.count(5), 5);
        // Spans one over another, and one within another.
        ShapePour y = Check.on("page wide 30 lines 1 high 2 least 1 ink 0;box 2 0 20 2;box 5 0 3 2;box 20 0 5 2;box 25 0 2 2;");
        CHECK.row("9: spans that meet", new long[] {y.slots(0), y.slot(0, 0, 1), y.slot(0, 1, 0), y.slot(0, 1, 1)}, 2, 2, 27, 30);
    }

    private static void lies() {
        ShapePour x = Check.on("page wide 20 lines 3 high 2 least 3 ink 0;box 6 0 4 2;words abc de fghij abcdefghijk k abcdefghijkl lmn;");
        // Line 0: 0 to 6, 10 to 20. "abc de" fills the first; "fghij" the next; then 11 letters do not fit there.
        long[] got = new long[21];
        for (int w = 0; w < 7; w++) {
            for (int what = 0; what < 3; what++) {
                got[3 * w + what] = x.lies(w, what);
            }
        }
        CHECK.row("11: lies", got, 0, 0, 0, 0, 4, 0, 0, 10, 1, 1, 0, 0, 1, 12, 0, 2, 0, 0, 2, 13, 0);
        CHECK.row("11: refused", new long[] {x.lies(7, 0), x.lies(-1, 0), x.lies(0, 3), x.lies(0, -1)}, -2, -2, -2, -2);
        x.hide(3);
        CHECK.row("11: hidden", new long[] {x.lies(3, 0), x.lies(3, 1), x.lies(4, 0), x.lies(4, 1), x.lies(4, 2)}, -1, -1, 0, 16, 1);
        // A word that finds no place keeps all behind it from one.
        ShapePour y = Check.on("page wide 10 lines 3 high 2 least 3 ink 0;words abc abcdefghijk d;");
        CHECK.row("11: no place", new long[] {y.lies(0, 0), y.lies(1, 0), y.lies(1, 1), y.lies(1, 2), y.lies(2, 0)}, 0, -1, -1, -1, -1);
        ShapePour z = Check.on("page wide 10 lines 3 high 2 least 10 ink 0;box 5 0 1 5;words a;");
        due("11: no slots", z.lies(0, 0), -1);
    }
}
