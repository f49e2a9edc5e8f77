/** Promises 7 to 10: admit, visit, swap, giveBack. */
public final class AdmissionTest {
    private static final Check CHECK = new Check("AdmissionTest");

    public static void main(String[] args) {
        siblingsFirst();
        lookedAtAnew();
        asFarAsThereArePlaces();
        roomOfAge();
        admissionAndSettling();
        visit();
        visitsOfSeveral();
        swapInOneRoom();
        swapOfTwoRooms();
        giveBack();
        CHECK.finish();
    }

    private static void due(String call, int got, int want) {
        CHECK.due(call, got, want);
    }

    /** One room for all ages with this many places in each session. */
    private static NurseryPlaces withPlaces(int places) {
        NurseryPlaces x = new NurseryPlaces();
        x.room(0, 72, places, 12);
        for (int i = 0; i * 12 < places; i++) x.carer(0, 31, 0, 10);
        return x;
    }

    private static void siblingsFirst() {
        NurseryPlaces x = withPlaces(3);
        x.child(10, 1, 3);
        x.admit();
        x.child(10, 2, 3);
        x.child(10, 1, 3);
        x.child(10, 1, 3);
        due("admit, siblings first", x.admit(), 2);
        due("the siblings of child 0 are placed", x.count(5), 13);
        x.leave(0);
        x.leave(2);
        x.leave(3);
        x.child(10, 1, 3);
        x.child(10, 3, 3);
        due("a sibling that is gone does not help", x.admit(), 3);
        x.child(10, 3, 3);
        x.child(10, 2, 3);
        x.leave(4);
        due("among siblings the lowest number", x.wouldAdmit(), 64);
    }

    private static void lookedAtAnew() {
        NurseryPlaces x = withPlaces(3);
        x.child(72, 5, 3);
        x.child(10, 1, 3);
        x.child(10, 2, 3);
        x.child(10, 2, 3);
        x.child(10, 1, 3);
        due("admit", x.admit(), 3);
        due("1, its sibling 4, then 2", x.count(5), 2 + 16 + 4);
        x = withPlaces(2);
        x.child(72, 4, 3);
        x.child(10, 1, 3);
        x.child(10, 2, 3);
        x.child(10, 4, 3);
        due("a waiting sibling does not help", x.admit(), 2);
        due("the lowest numbers", x.count(5), 6);
    }

    private static void asFarAsThereArePlaces() {
        NurseryPlaces x = new NurseryPlaces();
        x.room(0, 72, 2, 1);
        x.carer(0, 31, 0, 10);
        x.carer(0, 1, 0, 5);
        x.child(10, 0, 1023);
        x.child(10, 1, 3);
        x.child(10, 2, 5);
        due("admit", x.admit(), 1);
        due("the first one gets all", x.ofChild(0, 5), 1023);
        due("one session is fewer than LEAST", x.ofChild(1, 3), 0);
        x.set(2, 1);
        due("admit", x.admit(), 1);
        due("child 1 gets what is free of its wish", x.ofChild(1, 5), 1);
        due("its wish stays", x.ofChild(1, 2), 3);
        due("child 2 waits", x.ofChild(2, 3), 0);
        due("nobody more", x.admit(), 0);
        x.carer(0, 1, 0, 5);
        due("the capacity is full", x.admit(), 0);
        x.leave(0);
        x.sick(0);
        x.sick(1);
        due("sick carers count", x.admit(), 1);
        due("both sessions", x.ofChild(2, 5), 5);
    }

    private static void roomOfAge() {
        NurseryPlaces x = new NurseryPlaces();
        x.room(10, 20, 1, 1);
        x.room(15, 30, 5, 5);
        x.carer(0, 31, 0, 10);
        x.carer(1, 31, 0, 10);
        x.child(9, 0, 3);
        x.child(10, 1, 3);
        x.child(19, 2, 3);
        x.child(20, 3, 3);
        x.child(29, 4, 3);
        x.child(30, 5, 3);
        due("admit", x.admit(), 3);
        due("9 has no room", x.ofChild(0, 4), -6);
        due("10 is of room 0", x.ofChild(1, 4), 0);
        due("19 is of room 0 alone, which is full", x.ofChild(2, 3), 0);
        due("20 is of room 1", x.ofChild(3, 4), 1);
        due("29 is of room 1", x.ofChild(4, 4), 1);
        due("30 has no room", x.ofChild(5, 4), -6);
    }

    private static void admissionAndSettling() {
        NurseryPlaces x = withPlaces(5);
        x.child(10, 0, 3);
        x.admit();
        due("not settled at first", x.ofChild(0, 6), 0);
        x.set(3, 0);
        x.child(10, 0, 3);
        x.admit();
        due("settled at once", x.count(7), 2);
        due("state", x.ofChild(1, 3), 1);
        due("a visit that is planned takes no place in admission", x.visit(0, 5), 1);
        x.set(2, 1);
        for (int i = 0; i < 5; i++) x.child(10, 3, 32);
        due("admit", x.admit(), 5);
    }

    private static void visit() {
        NurseryPlaces x = withPlaces(1);
        x.set(2, 1);
        x.child(10, 0, 1);
        x.child(10, 1, 2);
        x.child(10, 2, 1);
        x.admit();
        due("no such child", x.visit(3, 0), -1);
        due("no such child", x.visit(-1, 0), -1);
        due("no such session", x.visit(0, 10), -1);
        due("no such session", x.visit(0, -1), -1);
        due("no such session of a waiting one", x.visit(2, 10), -1);
        due("a waiting child", x.visit(2, 5), -5);
        due("a session that is taken", x.visit(0, 1), -5);
        due("its own one, though it is taken", x.visit(0, 0), 1);
        due("a second one in the week", x.visit(0, 5), -5);
        due("a free one", x.visit(1, 5), 2);
        due("planned", x.ofChild(1, 8), 5);
        x.weeks(1);
        due("no more planned", x.ofChild(1, 8), -6);
        due("free again, and 0 again", x.visit(0, 5), 1);
        due("a visit takes the place", x.visit(1, 5), -5);
        x.leave(0);
        due("until the visitor leaves", x.visit(1, 5), 1);
        x = withPlaces(1);
        x.set(3, 0);
        x.child(10, 0, 3);
        x.admit();
        due("a settled child", x.visit(0, 0), -5);
        x.leave(0);
        due("a child that is gone", x.visit(0, 0), -5);
    }

    private static void visitsOfSeveral() {
        NurseryPlaces x = withPlaces(2);
        x.child(10, 0, 7);
        x.child(10, 1, 3 + 8);
        x.child(10, 2, 16 + 32);
        x.admit();
        due("an own one takes no place more", x.visit(0, 2), 1);
        due("so one is free for a visit", x.visit(1, 2), 2);
        due("now it is full", x.visit(2, 2), -5);
        due("give the own one back", x.giveBack(0, 2), 2);
        due("the visit stays", x.ofChild(0, 8), 2);
        due("and takes the place now", x.visit(2, 2), -5);
        x.leave(1);
        due("one place is free again", x.visit(2, 2), 2);
        x = withPlaces(2);
        x.room(0, 72, 1, 1);
        x.child(10, 0, 3);
        x.admit();
        x.sick(0);
        due("sick carers count for a visit", x.visit(0, 9), 1);
    }

    private static void swapInOneRoom() {
        NurseryPlaces x = withPlaces(2);
        x.child(10, 0, 3);
        x.child(10, 1, 6);
        x.child(10, 2, 3);
        x.admit();
        due("no such child", x.swap(3, 0, 1, 2), -1);
        due("no such child", x.swap(-1, 0, 1, 2), -1);
        due("no such other", x.swap(0, 0, 3, 2), -1);
        due("no such other", x.swap(0, 0, -1, 2), -1);
        due("no such session", x.swap(0, 10, 1, 2), -1);
        due("no such session", x.swap(0, -1, 1, 2), -1);
        due("no such other session", x.swap(0, 0, 1, 10), -1);
        due("no such other session", x.swap(0, 0, 1, -1), -1);
        due("with itself", x.swap(0, 0, 0, 1), -1);
        due("not placed", x.swap(2, 0, 1, 2), -5);
        due("the other not placed", x.swap(1, 2, 2, 0), -5);
        due("a session that it has not", x.swap(0, 5, 1, 2), -5);
        due("a session that both have", x.swap(0, 1, 1, 2), -5);
        due("the other one's session that both have", x.swap(0, 0, 1, 1), -5);
        due("the other one has not the session", x.swap(0, 0, 1, 7), -5);
        due("the same session", x.swap(0, 0, 1, 0), -5);
        due("swap", x.swap(0, 0, 1, 2), 1);
        due("sessions of 0", x.ofChild(0, 5), 6);
        due("sessions of 1", x.ofChild(1, 5), 3);
        due("back", x.swap(1, 0, 0, 2), 1);
        due("sessions of 0", x.ofChild(0, 5), 3);
    }

    private static void swapOfTwoRooms() {
        NurseryPlaces x = new NurseryPlaces();
        x.room(0, 20, 1, 1);
        x.room(20, 72, 1, 1);
        x.carer(0, 31, 0, 10);
        x.carer(1, 30, 0, 10);
        x.child(10, 0, 1 + 4);
        x.child(30, 1, 16 + 32);
        x.admit();
        due("room 1 has no place on day 0", x.swap(0, 0, 1, 4), -5);
        due("it has one on day 1", x.swap(0, 2, 1, 4), 1);
        due("sessions of 0", x.ofChild(0, 5), 1 + 16);
        due("sessions of 1", x.ofChild(1, 5), 4 + 32);
        x.child(10, 2, 64 + 128);
        x.child(30, 3, 16 + 256);
        due("admit", x.admit(), 2);
        due("both places are free", x.swap(2, 6, 1, 5), 1);
        due("session 4 of room 0 is taken by child 0", x.swap(2, 7, 3, 4), -5);
        due("told the other way round", x.swap(3, 4, 2, 7), -5);
        due("1 and 3 are both in room 1: no place is asked for", x.swap(1, 2, 3, 4), 1);
        due("sessions of 1", x.ofChild(1, 5), 16 + 64);
        due("sessions of 3", x.ofChild(3, 5), 4 + 256);
        due("session 4 of room 1 is taken by child 1", x.swap(0, 4, 3, 2), -5);
        due("rooms stay", x.ofChild(2, 4), 0);
        due("rooms stay", x.ofChild(3, 4), 1);
    }

    private static void giveBack() {
        NurseryPlaces x = withPlaces(1);
        x.child(10, 0, 1 + 2 + 512);
        due("a waiting child", x.giveBack(0, 0), -5);
        x.admit();
        due("no such child", x.giveBack(1, 0), -1);
        due("no such child", x.giveBack(-1, 0), -1);
        due("no such session", x.giveBack(0, 10), -1);
        due("no such session", x.giveBack(0, -1), -1);
        due("a session that it has not", x.giveBack(0, 2), -5);
        due("give back", x.giveBack(0, 9), 2);
        due("the place is free", x.free(0, 9), 1);
        due("fewer than LEAST", x.giveBack(0, 0), -5);
        due("its wish stays", x.ofChild(0, 2), 515);
        x.set(2, 1);
        due("LEAST is 1 now", x.giveBack(0, 0), 1);
        due("one is left", x.ofChild(0, 5), 2);
        due("none would be left", x.giveBack(0, 1), -5);
        x.leave(0);
        due("a child that is gone", x.giveBack(0, 1), -5);
    }
}
