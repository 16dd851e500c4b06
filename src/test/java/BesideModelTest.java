import java.lang.reflect.Method;
import java.lang.reflect.Modifier;
import java.util.ArrayList;
import java.util.HashMap;
import java.util.List;
import java.util.Map;
import java.util.Random;

/** Made-up runs of calls on the class and on the model; each answer must be the same. */
public final class BesideModelTest {
    private static final List<Method> CALLS = new ArrayList<>();
    private static final Map<Method, Method> TWINS = new HashMap<>();
    private static final Map<String, Integer> SEEN = new HashMap<>();
    private static int wrong = 0;

    public static void main(String[] args) throws Exception {
        int runs = args.length > 0 ? Integer.parseInt(args[0]) : 300;
        long from = args.length > 1 ? Long.parseLong(args[1]) : 1;
        for (Method m : ShapePour.class.getDeclaredMethods()) {
            if (Modifier.isPublic(m.getModifiers())) {
                CALLS.add(m);
                TWINS.put(m, Model.class.getDeclaredMethod(m.getName(), m.getParameterTypes()));
            }
        }
        CALLS.sort((a, b) -> a.getName().compareTo(b.getName()));
        for (long seed = from; seed < from + runs && wrong < 5; seed++) {
            run(seed);
        }
        if (args.length > 2) {
            SEEN.entrySet().stream().sorted(Map.Entry.comparingByKey()).forEach(e -> System.out.println(e));
        }
        System.out.println(wrong == 0 ? "class and model answer alike" : wrong + " runs differ");
        if (wrong != 0) {
            System.exit(1);
        }
    }

    private static ShapePour x;
    private static Model y;
    private static Random r;
    private static StringBuilder told;
    private static int calls;
    private static boolean differs;

    private static void run(long seed) throws Exception {
        r = new Random(seed);
        x = new ShapePour();
        y = new Model();
        told = new StringBuilder("run " + seed);
        calls = 0;
        differs = false;
        while (calls < 512 && !differs) {
            switch (calls == 0 ? r.nextInt(8) / 7 * 9 : r.nextInt(90)) {
                case 0: text(); break;
                case 1: case 2: deeds(); break;
                case 3: case 4: seen(); break;
                case 5: if (r.nextInt(4) == 0) { sweep(); } break;
                case 6: if (r.nextInt(4) == 0) { judged(); } break;
                default: any(); break;
            }
        }
    }

    private static void text() throws Exception {
        // What was fed ahead of it goes.
        call("page", 0);
        String text = Texts.some(r);
        told.append("\n  text ").append(text.replace("\n", "\\n"));
        for (int[] f : Texts.fives(text)) {
            call("feed", f[0], f[1], f[2], f[3], f[4]);
        }
        call("page", text.length() - (r.nextInt(20) == 0 ? r.nextInt(4) : 0));
        call("fault", 0);
        call("fault", 1);
    }

    /** A tray full of deeds, most of which can be; judged and done. */
    private static void deeds() throws Exception {
        int n = r.nextInt(8);
        call("numbers", 0, 2, n);
        for (int i = 0; i < n; i++) {
            int shape = r.nextInt(Math.max(1, x.count(0)));
            int word = r.nextInt(Math.max(1, x.count(1)));
            int[] some = {10 + r.nextInt(10), 100 + word, 1000 + 100 * shape + word, 1099 + 100 * shape,
                10000 + 1000 * shape + 80 + r.nextInt(41), 20000 + 1000 * shape + 80 + r.nextInt(41)};
            call("write", 0, i, r.nextInt(12) == 0 ? number() : some[r.nextInt(some.length)]);
        }
        judged();
        call("perform", 0);
    }

    private static void judged() throws Exception {
        for (int what = 0; what < 4; what++) {
            call("judge", 0, what);
        }
    }

    /** A tray that tells how wide words are by one ink, mostly. */
    private static void seen() throws Exception {
        int n = 1 + r.nextInt(r.nextInt(6) == 0 ? 9 : 3);
        int words = x.count(1);
        int was = x.ink(r.nextInt(10));
        y.ink(x.count(2));
        call("numbers", 1, 2 + r.nextInt(2), n);
        for (int i = 0; i < n; i++) {
            int word = r.nextInt(Math.max(1, words));
            int wide = r.nextInt(12) == 0 ? r.nextInt(202) : x.word(word, 1);
            call("write", 1, i, 1000L * word + wide);
        }
        call("inks", 1);
        call("measure", 1);
        call("ink", was);
    }

    private static void sweep() throws Exception {
        for (int line = 0; line < x.set(1) && calls < 450; line++) {
            for (int s = 0; s < x.count(0); s++) {
                call("span", s, line, 0);
                call("span", s, line, 1);
            }
            for (int i = 0; i <= x.slots(line); i++) {
                call("slot", line, i, r.nextInt(3));
            }
        }
        for (int w = 0; w < x.count(1); w++) {
            call("lies", w, r.nextInt(3));
        }
    }

    private static void any() throws Exception {
        Method m = CALLS.get(r.nextInt(CALLS.size()));
        // The model is slow at some, and others leave little of the page.
        boolean rare = List.of("bestX", "leastWide", "chance", "mean", "page", "image", "restore").contains(m.getName());
        if (!rare || r.nextInt(4) == 0) {
            call(m, arguments(m));
        }
    }

    private static void call(String name, Object... given) throws Exception {
        for (Method m : CALLS) {
            if (m.getName().equals(name)) {
                call(m, given);
            }
        }
    }

    private static void call(Method m, Object[] given) throws Exception {
        calls++;
        if (!differs && calls <= 512) {
            differs = !alike(m.getName(), given, m.invoke(x, given), TWINS.get(m).invoke(y, given));
        }
    }

    private static boolean alike(String name, Object[] given, Object got, Object due) {
        told.append("\n  ").append(name).append(List.of(given)).append(" ").append(got);
        long v = ((Number) got).longValue();
        SEEN.merge(name + (v < 0 ? " " + v : v == 0 ? " 0" : " +"), 1, Integer::sum);
        if (got.equals(due)) {
            return true;
        }
        wrong++;
        System.out.println(told);
        System.out.println("  due is " + due);
        return false;
    }

    private static Object[] arguments(Method m) {
        Class<?>[] types = m.getParameterTypes();
        Object[] all = new Object[types.length];
        for (int i = 0; i < all.length; i++) {
            all[i] = types[i] == long.class ? (Object) number() : (Object) argument(m.getName(), i);
        }
        if (r.nextInt(60) == 0 && all.length > 0) {
            int i = r.nextInt(all.length);
            int[] odd = {Integer.MIN_VALUE, Integer.MAX_VALUE, -1, 1000, r.nextInt()};
            all[i] = types[i] == long.class ? (Object) r.nextLong() : (Object) odd[r.nextInt(odd.length)];
        }
        return all;
    }

    private static int argument(String name, int i) {
        switch (name + i) {
            case "feed0": case "feed1": case "feed2": case "feed3": case "feed4": case "day0":
                return r.nextInt();
            case "page0": return r.nextInt(30) - 2;
            case "word0": case "lies0": case "hide0": case "tie1":
                return r.nextInt(r.nextBoolean() ? 10 : 32) - 1;
            case "span1": case "slots0": case "slot0": case "inLine0": case "full0":
                return r.nextInt(r.nextBoolean() ? 5 : 22) - 1;
            case "move1": return r.nextInt(10) == 0 ? r.nextInt(4) - 1 : r.nextInt(2);
            case "move2": return r.nextInt(10) == 0 ? r.nextInt(210) - 105 : r.nextInt(21) - 10;
            case "ink0": return r.nextInt(12) - 1;
            case "undo0": return r.nextInt(r.nextBoolean() ? 3 : 12);
            case "day1": return r.nextInt(r.nextInt(6) == 0 ? 43 : 4);
            case "numbers2": return r.nextInt(8) == 0 ? r.nextInt(44) - 2 : r.nextInt(6);
            case "write1": return r.nextInt(7) - 1;
            case "drawer1": return r.nextInt(12) - 1;
            case "keep0": case "kept0": return r.nextInt(r.nextBoolean() ? 3 : 11) - (r.nextInt(6) == 0 ? 1 : 0);
            case "count0": return r.nextInt(11) - 1;
            case "chance0": case "mean0": return r.nextInt(5) - 1;
            case "chance1": case "mean1": case "kept1": case "span2": case "image0": case "restore0":
                return r.nextInt(10) == 0 ? r.nextInt(4) - 1 : r.nextInt(2);
            case "slot2": case "lies1": case "word1":
                return r.nextInt(10) == 0 ? r.nextInt(5) - 1 : r.nextInt(3);
            case "numbers0": case "write0": case "lists0": case "inks0": case "measure0": case "judge0": case "perform0":
                return r.nextInt(10) == 0 ? r.nextInt(6) - 1 : r.nextInt(4);
            default: return r.nextInt(5) - (r.nextInt(6) == 0 ? 1 : 0);
        }
    }

    /** A number for a tray: a deed, or a word and how wide it is. */
    private static long number() {
        switch (r.nextInt(8)) {
            case 0: return 9 + r.nextInt(12);
            case 1: return 99 + r.nextInt(r.nextBoolean() ? 12 : 33);
            case 2: return 1000 + 100 * r.nextInt(3) + r.nextInt(12);
            case 3: return 999 + r.nextInt(602);
            case 4: return (r.nextBoolean() ? 10000 : 20000) + 1000 * r.nextInt(3) + 90 + r.nextInt(21);
            case 5: return 9999 + r.nextInt(16002);
            case 6: return 1000 * r.nextInt(6) + 1 + r.nextInt(12);
            default: return r.nextLong() >> r.nextInt(64);
        }
    }
}
