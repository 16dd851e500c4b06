import java.lang.management.ManagementFactory;

/** All calls of a run live in one room: an object is small, and its calls make nothing more. */
public final class RoomTest {
    private static final String SHAPES = "box 3 0 4 9;circle 20 8 5;wedge 30 4 5 9;box 12 3 2 30;circle 38 30 4;wedge 9 20 4 8;";
    private static final String PAGE = "page wide 40 lines 20 high 3 least 2 ink 2;" + SHAPES + "tie 0 3;tie 1 9;tie 2 14;tie 4 20;tie 5 1;"
        + "wide : if first > 9 then size + ink else size * 2 - ink end;gap : if line > shape then 1 else ink end;"
        + "words abc de fghij kl mnopqr st uvw xyz abc de fghij kl mnopqr st uvw xyz abc de fghij kl mnopqr st uvw xyz;";
    private static long answers = 0;

    public static void main(String[] args) {
        var threads = (com.sun.management.ThreadMXBean) ManagementFactory.getThreadMXBean();
        long id = Thread.currentThread().getId();
        int[][] fives = Texts.fives(PAGE);
        // Once, so that all classes are there.
        run(new ShapePour(), fives);
        long before = threads.getThreadAllocatedBytes(id);
        ShapePour x = new ShapePour();
        long made = threads.getThreadAllocatedBytes(id) - before;
        run(x, fives);
        long calls = threads.getThreadAllocatedBytes(id) - before - made;
        System.out.println("bytes of an object: " + made + ", of 512 calls: " + calls);
        if (made > 200000 || calls > 4096) {
            System.out.println("that is too much");
            System.exit(1);
        }
    }

    private static void run(ShapePour x, int[][] fives) {
        for (int[] f : fives) {
            x.feed(f[0], f[1], f[2], f[3], f[4]);
        }
        answers += x.page(PAGE.length());
        x.numbers(0, 2, 2);
        x.write(0, 0, 12);
        x.write(0, 1, 101);
        x.numbers(1, 1, 1);
        x.write(1, 0, 3);
        for (int i = 0; i < 14; i++) {
            answers += x.day(i, 3) + x.leastWide() + x.bestX(i % 6) + x.costs() + x.pushes(i % 6) + x.chance(2, 0) + x.mean(2, 1);
            answers += x.tight() + x.tightWays() + x.ragged() + x.judge(0, 2) + x.perform(0) + x.inks(1) + x.measure(1) + x.lists(2);
            answers += x.image(i % 2) + x.restore(i % 2) + x.undo(1) + x.ink(i % 10) + x.clash() + x.still() + x.rounds() + x.count(5);
        }
        for (int[] f : fives) {
            x.feed(f[0], f[1], f[2], f[3], f[4]);
        }
        answers += x.page(PAGE.length() - 1);
    }
}
