import java.lang.reflect.Constructor;
import java.lang.reflect.Field;
import java.lang.reflect.Method;
import java.lang.reflect.Modifier;
import java.nio.file.Files;
import java.nio.file.Path;
import java.util.ArrayList;
import java.util.Arrays;
import java.util.HashSet;
import java.util.List;
import java.util.Set;
import java.util.TreeSet;
import java.util.regex.Matcher;
import java.util.regex.Pattern;

/** The public face, and those rules of LANGUAGE.md that can be seen from outside. */
public final class RulesTest {
    private static final String FACE = "int feed(int,int,int,int,int) int page(int) int fault(int) int set(int) int shape(int,int) int word(int,int) "
        + "int span(int,int,int) int slots(int) int slot(int,int,int) int lies(int,int) int move(int,int,int) int tie(int,int) int hide(int) "
        + "int ink(int) int undo(int) int judge(int,int) int perform(int) int day(int,int) int placed() int last() int inLine(int) int full(int) "
        + "int ragged() int tight() long tightWays() int rounds() int still() int clash() int leastWide() int bestX(int) int costs() int pushes(int) "
        + "int inks(int) int measure(int) int chance(int,int) int mean(int,int) int drawer(int,int) int keep(int,int) int kept(int,int) "
        + "int numbers(int,int,int) long write(int,int,long) int lists(int) int image(int) int restore(int) int count(int)";
    private static int wrong = 0;

    public static void main(String[] args) throws Exception {
        face();
        insides();
        source();
        System.out.println(wrong == 0 ? "the rules are kept" : wrong + " rules are broken");
        if (wrong != 0) {
            System.exit(1);
        }
    }

    private static void must(boolean holds, String what) {
        if (!holds) {
            wrong++;
            System.out.println(what);
        }
    }

    private static void face() {
        Set<String> due = new TreeSet<>(Arrays.asList(FACE.replace(") ", ")\n").split("\n")));
        Set<String> found = new TreeSet<>();
        Set<String> names = new HashSet<>();
        for (Method m : ShapePour.class.getDeclaredMethods()) {
            if (Modifier.isPublic(m.getModifiers())) {
                List<String> types = new ArrayList<>();
                for (Class<?> type : m.getParameterTypes()) {
                    types.add(type.getName());
                }
                found.add(m.getReturnType() + " " + m.getName() + "(" + String.join(",", types) + ")");
                names.add(m.getName());
            }
        }
        must(found.equals(due), "the face is " + found);
        must(due.size() == 45, "45 calls");
        must(Modifier.isFinal(ShapePour.class.getModifiers()) && Modifier.isPublic(ShapePour.class.getModifiers()), "public and final");
        must(ShapePour.NONE == -1, "NONE");
        for (Constructor<?> c : ShapePour.class.getDeclaredConstructors()) {
            must(Modifier.isPublic(c.getModifiers()) && c.getParameterCount() == 0, "the constructor");
        }
        for (Method m : ShapePour.class.getDeclaredMethods()) {
            boolean open = Modifier.isPublic(m.getModifiers());
            must(open || Modifier.isPrivate(m.getModifiers()), m + " is neither public nor private");
            must(open || !names.contains(m.getName()), m + " bears the name of a public one");
        }
        for (Field f : ShapePour.class.getDeclaredFields()) {
            must(Modifier.isPrivate(f.getModifiers()) || f.getName().equals("NONE"), f + " is not private");
        }
        for (Class<?> inside : ShapePour.class.getDeclaredClasses()) {
            for (Method m : inside.getDeclaredMethods()) {
                must(!names.contains(m.getName()), m + " bears the name of a public one");
            }
        }
    }

    private static void insides() {
        must(ShapePour.class.getDeclaredClasses().length <= 11, "too many classes");
        List<Class<?>> all = new ArrayList<>(List.of(ShapePour.class.getDeclaredClasses()));
        all.forEach(c -> must(Modifier.isStatic(c.getModifiers()), c + " is not static"));
        all.add(ShapePour.class);
        for (Class<?> c : all) {
            int fields = 0;
            for (Field f : c.getDeclaredFields()) {
                boolean fixed = Modifier.isStatic(f.getModifiers());
                fields += fixed ? 0 : 1;
                must(!fixed || Modifier.isFinal(f.getModifiers()), f + " is static and not final");
            }
            must(fields <= 20, c + " has " + fields + " fields");
            for (Method m : c.getDeclaredMethods()) {
                must(m.getParameterCount() <= 7, m + " has too many parameters");
            }
        }
    }

    private static void source() throws Exception {
        List<String> lines = Files.readAllLines(Path.of("src/main/java/ShapePour.java"));
        String all = String.join("\n", lines).replaceAll("//.*", "").replaceAll("(?s)/\\*.*?\\*/", "");
        for (String no : new String[] {"->", "::", "\\bthrow\\b", "\\btry\\b", "\\bcatch\\b", "\\bfloat\\b", "\\bdouble\\b", "\\bsynchronized\\b",
            "\\bassert\\b", "\\bnull\\b", "while \\(true\\)", "for \\(;;\\)", "\\bSystem\\b(?!\\.arraycopy)", "Exact\\b", "\\bpackage\\b", "\\brecord\\b"}) {
            must(!Pattern.compile(no).matcher(all).find(), "the source has " + no);
        }
        Matcher calls = Pattern.compile("\\b(Math|Arrays|Integer|Long)\\.(\\w+)").matcher(all);
        Set<String> allowed = Set.of("Math.min", "Math.max", "Math.floorMod", "Arrays.fill", "Integer.bitCount", "Integer.MAX_VALUE");
        while (calls.find()) {
            must(allowed.contains(calls.group()), "the source has " + calls.group());
        }
        Matcher imports = Pattern.compile("import ([\\w.*]+);").matcher(all);
        while (imports.find()) {
            must(imports.group(1).equals("java.util.Arrays"), "the source imports " + imports.group(1));
        }
        int begin = 0;
        for (int i = 0; i < lines.size(); i++) {
            if (lines.get(i).matches("(    |        )(public|private|[a-z]\\w*) ?.*\\(.*\\) \\{")) {
                begin = i;
            }
            if (lines.get(i).matches("(    |        )\\}")) {
                must(i - begin < 60 || lines.get(i).equals("    }"), "a long method ends at line " + (i + 1));
            }
            must(lines.get(i).length() <= 130, "line " + (i + 1) + " is long");
        }
    }
}
