import java.lang.reflect.Method;
import java.lang.reflect.Modifier;
import java.nio.file.Files;
import java.nio.file.Path;
import java.util.ArrayList;
import java.util.List;
import java.util.Set;
import java.util.TreeSet;
import java.util.regex.Matcher;
import java.util.regex.Pattern;

/** README.md names each call and code, and the calls in it answer what stands behind them. */
public final class ReadmeTest {
    private static final Pattern CALL = Pattern.compile("x\\.(\\w+)\\(([^)]*)\\); *// (-?\\d+).*");
    private static final Check CHECK = new Check();

    public static void main(String[] args) throws Exception {
        String readme = Files.readString(Path.of("README.md"));
        List<String> blocks = javaBlocks(readme);
        CHECK.due("blocks of Java", blocks.size(), 3);
        toldAsHere(blocks.get(0));
        picture(readme, blocks.get(1));
        calls(blocks.get(1) + blocks.get(2));
        names(readme);
        refused(readme);
        CHECK.end();
    }

    private static List<String> javaBlocks(String readme) {
        List<String> blocks = new ArrayList<>();
        Matcher found = Pattern.compile("(?s)```java\n(.*?)```").matcher(readme);
        while (found.find()) {
            blocks.add(found.group(1));
        }
        return blocks;
    }

    static int tell(ShapePour x, String text) {
        int[] five = new int[5];
        for (int i = 0; i < text.length(); i += 20) {
            for (int k = 0; k < 20; k++) {
                int c = i + k < text.length() ? text.charAt(i + k) : ' ';
                five[k / 4] = five[k / 4] << 8 | c;
            }
            x.feed(five[0], five[1], five[2], five[3], five[4]);
        }
        return x.page(text.length());
    }

    /** The method that the page shows is the one above, but for how far it is indented. */
    private static void toldAsHere(String block) throws Exception {
        String here = Files.readString(Path.of("src/test/java/ReadmeTest.java"));
        String there = block.replaceAll("(?m)^(?=.)", "    ");
        CHECK.due("the method that tells a page is as shown", here.contains(there) ? 1 : 0, 1);
    }

    /** The lines of the picture are those of the page: the letters of its words, and O where a shape takes a line. */
    private static void picture(String readme, String block) {
        StringBuilder text = new StringBuilder();
        Matcher quoted = Pattern.compile("\"([^\"]*)\"").matcher(block);
        while (quoted.find()) {
            text.append(quoted.group(1));
        }
        ShapePour x = Check.on(text.toString());
        String[] words = text.substring(text.indexOf("words ") + 6, text.lastIndexOf(";")).split(" ");
        for (int line = 0; line < x.set(1); line++) {
            char[] row = " ".repeat(x.set(0)).toCharArray();
            for (int w = 0; w < words.length; w++) {
                for (int i = 0; x.lies(w, 0) == line && i < words[w].length(); i++) {
                    row[x.lies(w, 1) + i] = words[w].charAt(i);
                }
            }
            for (int s = 0; s < x.count(0); s++) {
                for (int at = Math.max(0, x.span(s, line, 0)); at < Math.min(row.length, x.span(s, line, 1)); at++) {
                    row[at] = 'O';
                }
            }
            String due = ("line " + line + "   " + new String(row)).stripTrailing();
            CHECK.due("the picture has: " + due, readme.contains("\n" + due + (due.endsWith("O") ? "" : "\n")) ? 1 : 0, 1);
        }
    }

    private static void calls(String block) throws Exception {
        ShapePour x = new ShapePour();
        int made = 0;
        StringBuilder text = new StringBuilder();
        for (String line : block.split("\n")) {
            Matcher call = CALL.matcher(line);
            if (line.contains("\"") && !line.startsWith("x.")) {
                Matcher quoted = Pattern.compile("^[^\"]*\"([^\"]*)\"\\)?;? *(// (\\d+).*)?$").matcher(line);
                CHECK.due("a line of the text: " + line, quoted.matches() ? 1 : 0, 1);
                text.append(quoted.group(1));
                if (quoted.group(3) != null) {
                    CHECK.due("the page", tell(x, text.toString()), Long.parseLong(quoted.group(3)));
                }
            } else if (line.startsWith("x.")) {
                CHECK.due("a call with its answer: " + line, call.matches() ? 1 : 0, 1);
                CHECK.due(line, answer(x, call.group(1), call.group(2)), Long.parseLong(call.group(3)));
                made++;
            }
        }
        CHECK.due("many calls", made > 30 ? 1 : 0, 1);
    }

    private static long answer(ShapePour x, String name, String given) throws Exception {
        String[] parts = given.isEmpty() ? new String[0] : given.split(", *");
        for (Method m : ShapePour.class.getMethods()) {
            if (m.getName().equals(name) && m.getParameterCount() == parts.length) {
                Object[] all = new Object[parts.length];
                for (int i = 0; i < all.length; i++) {
                    boolean wide = m.getParameterTypes()[i] == long.class;
                    all[i] = wide ? (Object) Long.parseLong(parts[i]) : (Object) Integer.parseInt(parts[i]);
                }
                return ((Number) m.invoke(x, all)).longValue();
            }
        }
        throw new IllegalStateException("no call " + name + " of " + parts.length);
    }

    private static void names(String readme) {
        String tables = readme.substring(readme.indexOf("## The calls"));
        for (Method m : ShapePour.class.getDeclaredMethods()) {
            if (Modifier.isPublic(m.getModifiers())) {
                boolean named = Pattern.compile("^\\|.*`" + m.getName() + "\\([^|]*\\)`.*\\|.*\\|$", Pattern.MULTILINE).matcher(tables).find();
                CHECK.due("a row of " + m.getName(), named ? 1 : 0, 1);
            }
        }
        for (int code : new int[] {-2, -3, -4, -5, -6, -7, -8, -11, -12, -99000002}) {
            CHECK.due("a row of " + code, tables.contains("\n| " + code + " |") ? 1 : 0, 1);
        }
    }

    /** Refused calls, one after the other, on a page with one box and one word, with tray 0 of no numbers. */
    private static final String[] REFUSED = {"keep(0, 0) -6", "kept(0, 0) -6", "restore(0) -5",
        "judge(1, 0) -6", "perform(1) -6", "inks(1) -6", "measure(1) -6", "write(1, 0, 0) -6", "lists(1) -6",
        "set(4) -2", "shape(1, 0) -2", "word(1, 0) -2", "slots(2) -2", "slot(0, 0, 3) -2", "lies(0, 3) -2", "judge(0, 4) -2", "perform(4) -2",
        "inLine(2) -2", "full(2) -2", "bestX(1) -2", "pushes(1) -2", "inks(4) -2", "measure(4) -2", "chance(0, 2) -2", "mean(0, 2) -2",
        "drawer(3, 0) -2", "keep(0, 1) -2", "kept(0, 2) -2", "numbers(0, 4, 0) -2", "write(4, 0, 0) -2", "lists(4) -2", "image(2) -2",
        "restore(2) -2", "span(0, 2, 0) -99000002", "page(-1) -3", "slot(0, -1, 0) -3", "undo(0) -3", "day(1, 41) -3", "drawer(0, 10) -3",
        "numbers(0, 0, 41) -3", "chance(3, 0) -3", "mean(3, 0) -3", "inks(0) -4", "measure(0) -4", "write(0, 0, 0) -7",
        "numbers(0, 0, 1) 0", "inks(0) -3", "measure(0) -3", "drawer(1, 1) 0", "keep(1, 0) -7", "kept(1, 0) -7", "keep(0, 0) -8", "kept(0, 0) -5",
        "move(1, 0, 1) -11", "tie(1, 0) -11", "hide(1) -11", "ink(10) -11", "move(0, 0, -1) -12"};

    /** The rows of refused calls name just the calls that answer so. */
    private static void refused(String readme) throws Exception {
        ShapePour x = Check.on("page wide 10 lines 2 high 1 least 1 ink 0; box 0 0 1 1; words a;");
        x.numbers(0, 0, 0);
        Set<String> due = new TreeSet<>(Set.of("-5 feed", "-31 to -34 page"));
        for (String told : REFUSED) {
            String name = told.substring(0, told.indexOf('('));
            long code = Long.parseLong(told.substring(told.lastIndexOf(' ') + 1));
            CHECK.due(told, answer(x, name, told.substring(told.indexOf('(') + 1, told.indexOf(')'))), code);
            if (code != 0) {
                due.add(code + " " + name);
            }
        }
        Set<String> shown = new TreeSet<>();
        Matcher row = Pattern.compile("(?m)^\\| (-\\d+(?: to -\\d+)?) \\|[^|]*\\|([^|]*)\\|$").matcher(readme);
        while (row.find()) {
            Matcher name = Pattern.compile("`(\\w+)`").matcher(row.group(2).replaceAll("\\(.*\\)", ""));
            while (name.find()) {
                shown.add(row.group(1) + " " + name.group(1));
            }
        }
        for (String one : due) {
            CHECK.due("shown as refused: " + one, shown.contains(one) ? 1 : 0, 1);
        }
        CHECK.due("refused calls that are shown", shown.size(), due.size());
    }
}
