/** Promises 27 to 29 on pages that were searched for: they settle late, come round late, or not at all by round 60. */
public final class LongRoundsTest {
    private static final Check CHECK = new Check();

    public static void main(String[] args) {
        rounds("page wide 27 lines 20 high 5 least 3 ink 0;circle 7 30 23;wedge 20 0 24 7;circle 22 0 7;circle 22 4 10;wedge 27 0 13 30;circle 7 0 7;"
            + "tie 0 29;tie 1 6;tie 2 3;tie 3 24;tie 4 6;tie 5 18;", "31a68c1ba7b7863ca1ac3b5a221994", 60, 2);
        rounds("page wide 21 lines 20 high 9 least 3 ink 0;box 11 14 10 37;box 43 42 14 39;circle 24 0 16;circle 8 1 4;circle 9 1 15;circle 15 6 12;"
            + "tie 0 26;tie 1 3;tie 2 3;tie 3 6;tie 4 21;tie 5 12;", "36c589a864a34c419b7c4a685c6598", 60, 2);
        rounds("page wide 43 lines 20 high 8 least 1 ink 0;circle 43 1 19;box 9 0 9 12;circle 13 16 17;box 14 4 24 25;circle 7 12 12;circle 15 2 17;"
            + "tie 0 3;tie 1 0;tie 2 29;tie 3 23;tie 4 9;tie 5 12;", "b476b7482cc87285a198c68226ab6a", 60, 2);
        rounds("page wide 35 lines 20 high 9 least 4 ink 0;circle 20 39 12;circle 9 2 4;circle 1 16 25;circle 47 10 11;circle 32 1 22;circle 28 1 19;"
            + "tie 0 24;tie 1 3;tie 2 22;tie 3 9;tie 4 9;tie 5 1;", "9141b424bb26b635963a69b9cbca2c", 60, 1);
        rounds("page wide 24 lines 20 high 10 least 3 ink 0;circle 10 3 16;box 9 0 15 13;circle 35 0 25;circle 15 12 17;wedge 41 30 25 36;circle 3 1 21;"
            + "tie 0 9;tie 1 15;tie 2 0;tie 3 20;tie 4 16;tie 5 5;", "16282a938c77962857ab75aa9b4749", 60, 1);
        rounds("page wide 43 lines 20 high 10 least 3 ink 0;circle 8 6 19;circle 7 25 15;wedge 30 1 10 28;circle 25 18 11;circle 45 13 24;circle 44 2 25;"
            + "tie 0 29;tie 1 8;tie 2 28;tie 3 2;tie 4 19;tie 5 6;", "696c7965b52675729b18588c69c3cc", 60, 1);
        rounds("page wide 32 lines 20 high 6 least 4 ink 0;wedge 20 33 5 5;box 21 6 9 1;circle 23 0 12;circle 20 2 9;circle 35 0 18;circle 8 7 9;"
            + "tie 0 18;tie 1 28;tie 2 12;tie 3 21;tie 4 4;tie 5 26;", "c5c769c3a9211862b95b11c2a9a53c", 37, 0);
        rounds("page wide 49 lines 20 high 5 least 1 ink 0;circle 49 4 18;circle 21 46 11;box 30 7 10 23;circle 0 22 21;circle 3 2 22;box 38 26 17 17;"
            + "tie 0 19;tie 1 5;tie 2 11;tie 3 3;tie 4 29;tie 5 27;", "a1a4c71a8bc9c969a1742934993931", 30, 0);
        CHECK.end();
    }

    /** The words are told by how many letters each has, in hexadecimal digits. */
    private static void rounds(String shapes, String sizes, int rounds, int still) {
        StringBuilder text = new StringBuilder(shapes).append("words");
        for (int i = 0; i < sizes.length(); i++) {
            text.append(' ').append("abcdefghijkl", 0, Character.digit(sizes.charAt(i), 16));
        }
        text.append(';');
        ShapePour x = Check.on(text.toString());
        Model y = new Model();
        for (int[] f : Texts.fives(text.toString())) {
            y.feed(f[0], f[1], f[2], f[3], f[4]);
        }
        y.page(text.length());
        CHECK.row("27, 28: " + shapes, new long[] {x.rounds(), x.still()}, rounds, still);
        CHECK.row("27, 28: as the model", new long[] {x.rounds(), x.still()}, y.rounds(), y.still());
        CHECK.due("29: clash", x.clash(), y.clash());
        CHECK.due("29: clash without one", x.clash() == 0 ? 0 : 1, still == 1 ? 1 : 0);
        for (int w = 0; w < 30; w++) {
            CHECK.due("11: lies in the last round", x.lies(w, 0), y.lies(w, 0));
            CHECK.due("11: lies in the last round", x.lies(w, 1), y.lies(w, 1));
        }
        for (int s = 0; s < 6; s++) {
            CHECK.due("6: Y in the last round", x.shape(s, 4), y.shape(s, 4));
            CHECK.due("33: pushes", x.pushes(s), y.pushes(s));
        }
        CHECK.due("30: least wide", x.leastWide(), y.leastWide());
        CHECK.due("31: best", x.bestX(0), y.bestX(0));
        CHECK.due("32: costs", x.costs(), y.costs());
        CHECK.due("36: chance", x.chance(2, 0), y.chance(2, 0));
        CHECK.due("37: mean", x.mean(2, 0), y.mean(2, 0));
    }
}
