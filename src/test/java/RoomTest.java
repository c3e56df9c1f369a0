import java.lang.management.ManagementFactory;

/** All calls of one run live in one room: objects stay small, and calls make nothing. */
public final class RoomTest {
    private static final int OBJECT_BYTES = 48_000;
    private static final int CALL_BYTES = 64;

    private static final com.sun.management.ThreadMXBean THREADS =
            (com.sun.management.ThreadMXBean) ManagementFactory.getThreadMXBean();
    private static long sum = 0;

    public static void main(String[] args) {
        long before = allocated();
        GridLaws[] many = new GridLaws[512];
        for (int i = 0; i < many.length; i++) {
            many[i] = new GridLaws();
        }
        long each = (allocated() - before) / many.length;
        System.out.println("an object takes " + each + " bytes");
        Check.due("an object is small", true, each < OBJECT_BYTES);
        calls();
        Check.finish("RoomTest");
    }

    private static long allocated() {
        return THREADS.getThreadAllocatedBytes(Thread.currentThread().getId());
    }

    private static void calls() {
        GridLaws x = Check.of(busyText());
        everyCall(x);
        long before = allocated();
        long start = System.nanoTime();
        int rounds = 12;
        for (int i = 0; i < rounds; i++) {
            everyCall(x);
        }
        long bytes = (allocated() - before) / rounds;
        System.out.println("every call once takes " + bytes + " bytes, "
                + (System.nanoTime() - start) / rounds / 1000 + " us, " + sum % 7);
        Check.due("calls make nothing", true, bytes < CALL_BYTES);
    }

    /** Many FILLINGS: sixteen acts of two letters that fit everywhere. */
    private static String busyText() {
        StringBuilder text = new StringBuilder("size 2 by 2;black 1 1;party p;party q;");
        for (int i = 0; i < 16; i++) {
            text.append("act a").append((char) ('a' + i)).append(" p ").append(i % 10).append(" q 3;");
        }
        return text.append("if aa and ab then ac;never aa ab;force (long+vowels)*line-year/meets;").toString();
    }

    private static void everyCall(GridLaws x) {
        sum += x.feed(0x61637420, 0x61623b20, 0x20202020, 0x20202020, 0x20202020) + x.grid() + x.end(0);
        sum += x.grid() + x.fault(0) + x.square(0) + x.slots() + x.slot(0, 4) + x.fits(0) + x.places(0);
        sum += x.feed(0x70617274, 0x7920703b, 0x61637420, 0x61616120, 0x7020313b);
        sum += x.feed(0x70617274, 0x7920713b, 0x61637420, 0x61626120, 0x7020313b) + x.grid();
        sum += x.wants(0, 0) + x.write(0, 0) + x.strike(0) + x.blacken(8) + x.sitting();
        sum += (x.undo() ? 1 : 0) + (x.redo() ? 1 : 0) + x.force() + x.follows() + x.against() + x.worth(0);
        sum += x.blanks() + x.capital() + x.nonsense() + x.fillings() + x.best(0) + x.span(0, 1);
        sum += x.reform(0, 1) + x.play(0, 1, 0) + x.will(0, 60) + x.lies(0) + x.sight(0, 1, true);
        sum += (x.untell(0) ? 1 : 0) + x.later(1) + x.prints(0) + x.sure(0, 0) + x.ask(0, 0);
        sum += x.image(0) + x.back(0) + x.about(0);
    }
}
