import java.lang.management.ManagementFactory;

/** All calls of a run live in one room that nothing leaves: no call may make objects. */
public final class RoomUseTest {
    private static final Check CHECK = new Check("RoomUseTest");
    private static final int CALLS = 512;
    private static final long FIRST = Texts.pack("a;w52;s1");
    private static final long SECOND = Texts.pack(";v0@1;a");
    /** What the machine itself may make once, far below one small object for each call. */
    private static final long SLACK = 4096;

    public static void main(String[] args) {
        com.sun.management.ThreadMXBean threads = (com.sun.management.ThreadMXBean) ManagementFactory.getThreadMXBean();
        NurseryPlaces x = nursery();
        for (int call = 0; call < CALLS; call++) ask(x, call);
        long before = threads.getCurrentThreadAllocatedBytes();
        for (int call = 0; call < CALLS; call++) ask(x, call);
        long bytes = threads.getCurrentThreadAllocatedBytes() - before;
        CHECK.that(CALLS + " calls made " + bytes + " bytes of objects", bytes <= SLACK);
        before = threads.getCurrentThreadAllocatedBytes();
        NurseryPlaces fresh = new NurseryPlaces();
        bytes = threads.getCurrentThreadAllocatedBytes() - before;
        CHECK.that("a new object has " + bytes + " bytes", bytes < 64 * 1024);
        CHECK.due("week of the new object", fresh.count(0), 0);
        CHECK.finish();
    }

    private static NurseryPlaces nursery() {
        NurseryPlaces x = new NurseryPlaces();
        for (int i = 0; i < 5; i++) x.room(14 * i, 14 * i + 14, 10, 2);
        for (int i = 0; i < 12; i++) x.carer(i % 5, 31, 0, 10);
        for (int i = 0; i < 24; i++) x.child(3 * i, i % 16, 1023);
        return x;
    }

    private static int ask(NurseryPlaces x, int call) {
        switch (call % 24) {
            case 0: return x.set(3, call % 3);
            case 1: return x.room(0, 1, 1, 1);
            case 2: return x.carer(0, 1, 0, 1);
            case 3: return x.child(0, 0, 1);
            case 4: return x.leave(call % 24);
            case 5: return x.admit();
            case 6: return x.visit(call % 24, call % 10);
            case 7: return x.swap(call % 24, call % 10, call % 23, call % 9);
            case 8: return x.giveBack(call % 24, call % 10);
            case 9: return x.sick(call % 12);
            case 10: return x.weeks(52);
            case 11: return x.income(52);
            case 12: return x.wouldAdmit();
            case 13: return x.sentHome(call % 12);
            case 14: return x.moreBy(0, 31, 0, 10);
            case 15: return x.partners(call % 24, call % 10, call % 9);
            case 16: return x.put(FIRST);
            case 17: return x.put(SECOND);
            case 18: return x.fault();
            case 19: return x.carryOut();
            case 20: return x.wipe();
            case 21: return x.undo();
            case 22: return x.save(0);
            default: return x.restore(0);
        }
    }
}
