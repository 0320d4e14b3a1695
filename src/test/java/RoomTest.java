import java.lang.management.ManagementFactory;
import java.util.function.Consumer;

/** All calls of one run live in one room: what 512 calls make, at their dearest, stays far below it. */
public final class RoomTest {
    private static final long MOST_ELEMENTS = 7_300_000, BYTES_OF_AN_INT = 4;
    private static final Check check = new Check("RoomTest");

    public static void main(String[] args) {
        room("a run of the dearest find", x -> {
            x.j(0, 80);
            x.stretch(0, 7, 1);
            while (x.left() > 0) {
                x.find(0, 1, 8, 0);
            }
        });
        room("a run of j and powers", x -> {
            while (x.left() > 1) {
                x.j(0, 80);
                x.power(0, 9, 1);
            }
        });
        room("a run of graphs", x -> {
            x.prime(199);
            x.list(0, 9);
            x.put(0, 0, 1);
            x.tell(0, 0, 0);
            x.find(0, 0, 8, 0);
            while (x.left() > 4) {
                x.values(0);
                x.far(0, 198);
                x.reach(5);
                x.vanishes(0, 0);
            }
        });
        room("a run of texts and images", x -> {
            while (x.left() > 110) {
                for (int t = 0; t < 100; t++) {
                    x.feed(t % 2 == 0 ? '1' : '+');
                }
                x.deeds();
                x.feed('1');
                x.read();
                x.write();
                x.keep(0);
                x.image();
                x.back();
            }
        });
        check.end();
    }

    private static void room(String words, Consumer<CountedEquations> run) {
        check.test("LANGUAGE.md, rule 12", "what is made is kept small: " + words, unused -> {
            var threads = (com.sun.management.ThreadMXBean) ManagementFactory.getThreadMXBean();
            long before = threads.getCurrentThreadAllocatedBytes();
            run.accept(new CountedEquations());
            long made = threads.getCurrentThreadAllocatedBytes() - before;
            check.holds("bytes made: " + made, made < MOST_ELEMENTS * BYTES_OF_AN_INT);
        });
    }
}
