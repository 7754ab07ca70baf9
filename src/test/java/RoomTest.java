import java.lang.management.ManagementFactory;

/**
 * All calls of a run live in one room that is never cleared: what an object needs it makes at first,
 * and the dearest calls, made again, make nothing new.
 */
public final class RoomTest {
    private static final long MOST_NEW = 20_000;
    private static final long MOST_JUDGED = 800_000;
    private static final long SLACK = 4_000;

    private static int wrong = 0;

    public static void main(String[] args) {
        com.sun.management.ThreadMXBean bean = (com.sun.management.ThreadMXBean) ManagementFactory.getThreadMXBean();
        long id = Thread.currentThread().getId();
        busy(new NoteGate());
        ask(new NoteGate(), 1);
        long start = bean.getThreadAllocatedBytes(id);
        NoteGate g = new NoteGate();
        long made = bean.getThreadAllocatedBytes(id);
        busy(g);
        ask(g, 1);
        long judged = bean.getThreadAllocatedBytes(id);
        ask(g, 60);
        long again = bean.getThreadAllocatedBytes(id);
        within("a new object", made - start, MOST_NEW);
        within("the first judge that is full", judged - made, MOST_JUDGED);
        within("60 times judge, stops, longest, row, script", again - judged, SLACK);
        System.out.println(wrong == 0 ? "the room is kept" : wrong + " wrong");
        if (wrong != 0) {
            System.exit(1);
        }
    }

    private static void within(String what, long bytes, long most) {
        if (bytes > most) {
            wrong++;
            System.out.println(what + ": " + bytes + " bytes, at most " + most + " are due");
        }
    }

    private static void busy(NoteGate g) {
        for (int i = 0; i < 4; i++) {
            g.house(0, false, 0);
        }
        g.tap(1);
        g.prove(0);
        for (int i = 0; i < 5; i++) {
            g.ask(0, 3, 255);
            g.deliver(0);
            g.deliver(0);
        }
        g.checks(0);
    }

    private static void ask(NoteGate g, int times) {
        for (int i = 0; i < times; i++) {
            g.judge(0, 0, 1, 0, 6);
            g.stops(0, 0, 1, 0, 6);
            g.longest(0, 0, 0);
            g.row(0, 0, 60);
            g.script(0);
            g.tick(1);
        }
    }
}
