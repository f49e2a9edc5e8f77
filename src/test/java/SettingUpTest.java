/** Promises 1 to 6: a new object, set, room, carer, child, leave. */
public final class SettingUpTest {
    private static final Check CHECK = new Check("SettingUpTest");

    public static void main(String[] args) {
        newObject();
        set();
        setLeavesChildrenAsTheyAre();
        room();
        carer();
        child();
        leave();
        CHECK.finish();
    }

    private static void due(String call, int got, int want) {
        CHECK.due(call, got, want);
    }

    private static void newObject() {
        NurseryPlaces x = new NurseryPlaces();
        int[] counts = {0, 0, 0, 0, 0, 0, 0, 0, 0, 0, 0, 0, 0, 0, 3000, 20, 2, 3, 12};
        for (int what = 0; what < counts.length; what++) due("new: count(" + what + ")", x.count(what), counts[what]);
        due("new: ofRoom(0, 0)", x.ofRoom(0, 0), -1);
        due("new: ofCarer(0, 0)", x.ofCarer(0, 0), -1);
        due("new: ofChild(0, 0)", x.ofChild(0, 0), -1);
        due("new: free(0, 0)", x.free(0, 0), -1);
        due("new: wouldAdmit()", x.wouldAdmit(), 0);
        due("new: sentHome(NONE)", x.sentHome(-6), 0);
        due("new: income(52)", x.income(52), 0);
        due("new: fault()", x.fault(), 0);
        due("new: undo()", x.undo(), -5);
        due("new: restore(0)", x.restore(0), -5);
        due("new: restore(1)", x.restore(1), -5);
        due("new: admit()", x.admit(), 0);
    }

    private static void set() {
        NurseryPlaces x = new NurseryPlaces();
        int[] first = {3000, 20, 2, 3, 12};
        int[] lowest = {0, 0, 1, 0, 0};
        int[] highest = {10000, 100, 10, 9, 99};
        for (int i = 0; i < 5; i++) {
            due("set: below the range " + i, x.set(i, lowest[i] - 1), -2);
            due("set: above the range " + i, x.set(i, highest[i] + 1), -2);
            due("set: lowest " + i, x.set(i, lowest[i]), first[i]);
            due("set: count " + i, x.count(14 + i), lowest[i]);
            due("set: highest " + i, x.set(i, highest[i]), lowest[i]);
            due("set: count " + i, x.count(14 + i), highest[i]);
            due("set: far off " + i, x.set(i, Integer.MAX_VALUE), -2);
            due("set: far off " + i, x.set(i, Integer.MIN_VALUE), -2);
            due("set: stays " + i, x.count(14 + i), highest[i]);
        }
        due("set(-1, 1)", x.set(-1, 1), -2);
        due("set(5, 1)", x.set(5, 1), -2);
        due("set(MIN, 1)", x.set(Integer.MIN_VALUE, 1), -2);
    }

    private static void setLeavesChildrenAsTheyAre() {
        NurseryPlaces x = new NurseryPlaces();
        x.room(0, 72, 5, 5);
        x.carer(0, 31, 0, 10);
        x.child(10, 0, 3);
        x.admit();
        x.set(3, 0);
        due("set(VISITS, 0) settles nobody", x.ofChild(0, 6), 0);
        x.set(2, 5);
        due("set(LEAST, 5) takes no session", x.ofChild(0, 5), 3);
        x.weeks(1);
        due("settled behind the week", x.ofChild(0, 6), 1);
        x.set(3, 9);
        due("set(VISITS, 9) unsettles nobody", x.ofChild(0, 6), 1);
        x.weeks(1);
        due("nor does a week", x.ofChild(0, 6), 1);
    }

    private static void room() {
        NurseryPlaces x = new NurseryPlaces();
        int[][] bad = {{-1, 5, 1, 1}, {72, 73, 1, 1}, {5, 5, 1, 1}, {5, 4, 1, 1}, {0, 73, 1, 1}, {0, 0, 1, 1}, {0, 1, 0, 1},
            {0, 1, 41, 1}, {0, 1, 1, 0}, {0, 1, 1, 13}, {Integer.MAX_VALUE, Integer.MIN_VALUE, 1, 1}, {0, Integer.MAX_VALUE, 1, 1}};
        for (int[] b : bad) due("room, bad", x.room(b[0], b[1], b[2], b[3]), -2);
        due("no room yet", x.count(1), 0);
        due("room 0", x.room(0, 1, 1, 1), 0);
        due("room 1", x.room(71, 72, 40, 12), 1);
        due("room 2", x.room(0, 72, 20, 6), 2);
        due("room 3", x.room(5, 6, 7, 8), 3);
        due("room 4", x.room(5, 6, 7, 8), 4);
        due("too many rooms", x.room(5, 6, 7, 8), -4);
        due("bad goes before too many", x.room(5, 5, 7, 8), -2);
        due("five rooms", x.count(1), 5);
        int[] third = {5, 6, 7, 8, 0, 0};
        for (int what = 0; what < 6; what++) due("ofRoom(3, " + what + ")", x.ofRoom(3, what), third[what]);
        due("ofRoom(1, 0)", x.ofRoom(1, 0), 71);
        due("ofRoom(1, 1)", x.ofRoom(1, 1), 72);
        due("ofRoom(1, 2)", x.ofRoom(1, 2), 40);
        due("ofRoom(1, 3)", x.ofRoom(1, 3), 12);
    }

    private static void carer() {
        NurseryPlaces x = new NurseryPlaces();
        due("carer without a room", x.carer(0, 31, 0, 10), -1);
        x.room(0, 72, 40, 1);
        int[][] bad = {{0, 0, 10}, {32, 0, 10}, {-1, 0, 10}, {31, -1, 10}, {31, 10, 11}, {31, 3, 3}, {31, 3, 2}, {31, 0, 11},
            {31, 0, Integer.MAX_VALUE}, {31, Integer.MAX_VALUE, 5}};
        for (int[] b : bad) due("carer, bad", x.carer(0, b[0], b[1], b[2]), -2);
        due("no such room goes before bad", x.carer(1, 0, 0, 0), -1);
        due("no such room", x.carer(-1, 31, 0, 10), -1);
        due("no carer yet", x.count(2), 0);
        due("carer 0", x.carer(0, 1, 0, 1), 0);
        due("carer 1", x.carer(0, 31, 9, 10), 1);
        for (int i = 2; i < 12; i++) due("carer " + i, x.carer(0, 16, 2, 7), i);
        due("too many carers", x.carer(0, 16, 2, 7), -4);
        due("bad goes before too many", x.carer(0, 16, 7, 7), -2);
        due("no such room goes before too many", x.carer(3, 16, 2, 7), -1);
        int[] last = {0, 16, 2, 7, 0};
        for (int what = 0; what < 5; what++) due("ofCarer(11, " + what + ")", x.ofCarer(11, what), last[what]);
        due("ofRoom(0, 4)", x.ofRoom(0, 4), 4095);
    }

    private static void child() {
        NurseryPlaces x = new NurseryPlaces();
        int[][] bad = {{-1, 0, 1}, {73, 0, 1}, {0, -1, 1}, {0, 16, 1}, {0, 0, 0}, {0, 0, 1024}, {0, 0, -1}};
        for (int[] b : bad) due("child, bad", x.child(b[0], b[1], b[2]), -2);
        due("no child yet", x.count(3), 0);
        x.weeks(3);
        due("child 0", x.child(0, 0, 1), 0);
        due("child 1", x.child(72, 15, 1023), 1);
        int[] second = {72, 15, 1023, 0, -6, 0, 0, 0, -6, 0, 0, 0, 3};
        for (int what = 0; what < second.length; what++) due("ofChild(1, " + what + ")", x.ofChild(1, what), second[what]);
        due("waiting", x.count(4), 3);
        x.leave(0);
        for (int i = 2; i < 24; i++) due("child " + i, x.child(i, 0, 1), i);
        due("too many children, the gone ones too", x.child(0, 0, 1), -4);
        due("bad goes before too many", x.child(0, 0, 0), -2);
        due("24 children", x.count(3), 24);
    }

    private static void leave() {
        NurseryPlaces x = new NurseryPlaces();
        x.room(0, 72, 5, 5);
        x.carer(0, 31, 0, 10);
        x.child(10, 0, 3);
        x.child(10, 1, 3);
        x.child(80 - 10, 2, 3);
        x.admit();
        x.child(10, 1, 3);
        x.visit(0, 0);
        x.visit(1, 5);
        due("no such child", x.leave(4), -1);
        due("no such child", x.leave(-1), -1);
        due("leave a waiting one", x.leave(3), 3);
        due("it is gone", x.ofChild(3, 3), 2);
        due("leave a placed one", x.leave(1), 2);
        int[] gone = {10, 1, 3, 2, -6, 0, 0, 0, -6, 0, 0, 0, 0};
        for (int what = 0; what < gone.length; what++) due("gone: ofChild(1, " + what + ")", x.ofChild(1, what), gone[what]);
        due("its visit is not planned", x.count(11), 1);
        due("its place is free", x.ofRoom(0, 20), 2);
        due("leave twice", x.leave(1), -5);
        due("the set of gone ones", x.count(6), 10);
        x.weeks(1);
        due("only one visit took place", x.count(9), 1);
        x.leave(0);
        due("visits so far stay known", x.ofChild(0, 7), 1);
        due("the last one", x.leave(2), 0);
    }
}
