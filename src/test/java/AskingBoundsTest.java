import java.util.function.Supplier;

/** Promises 13 to 17: a test for each sentence that names a boundary. */
public final class AskingBoundsTest {
    private static final Check CHECK = new Check("AskingBoundsTest");

    public static void main(String[] args) {
        ofRoomWhat();
        ofRoomNoSuch();
        ofRoomBadValue();
        ofCarerWhat();
        ofCarerNoSuch();
        ofCarerBadValue();
        ofChildWhat();
        ofChildVisits();
        ofChildNotPlaced();
        ofChildWeek();
        ofChildNoSuch();
        ofChildBadValue();
        countWhat();
        countOfManyCalls();
        countBadValue();
        askingChangesNothing();
        freePlaces();
        freeNone();
        freeNoSuch();
        CHECK.finish();
    }

    private static void due(String call, int got, int want) {
        CHECK.due(call, got, want);
    }

    private static void refused(String call, int code, Supplier<NurseryPlaces> maker, Unchanged.Call refused) {
        Unchanged.due(CHECK, call, maker, refused, code);
    }

    private static void ofRoomWhat() {
        CHECK.sentence("Promise 13", "- `what`: 0 and 1 its band, 2 its capacity, 3 its ratio, 4 its carers (a set), 5 its children (a set), 10 to 19 its places in the sessions 0 to 9, 20 to 29 the places that are taken in them, 30 to 39 the places without sick carers");
        NurseryPlaces x = new NurseryPlaces();
        x.room(3, 15, 7, 2);
        x.room(20, 21, 1, 1);
        x.carer(0, 1 + 16, 0, 10);
        x.carer(1, 31, 0, 10);
        x.carer(0, 1 + 16, 5, 10);
        x.set(2, 1);
        x.child(3, 0, 1 + 512);
        x.child(20, 0, 1);
        x.child(14, 0, 512);
        x.child(72, 0, 512);
        x.admit();
        x.sick(2);
        int[] first = {3, 15, 7, 2, 1 + 4, 1 + 4};
        int[] second = {20, 21, 1, 1, 2, 2};
        for (int what = 0; what < 6; what++) {
            due("ofRoom(0, " + what + ")", x.ofRoom(0, what), first[what]);
            due("ofRoom(1, " + what + ")", x.ofRoom(1, what), second[what]);
        }
        int[] places = {2, 4, 0, 0, 0, 0, 0, 0, 2, 4};
        int[] taken = {1, 0, 0, 0, 0, 0, 0, 0, 0, 2};
        int[] healthy = {2, 2, 0, 0, 0, 0, 0, 0, 2, 2};
        for (int session = 0; session < 10; session++) {
            due("ofRoom(0, " + (10 + session) + ")", x.ofRoom(0, 10 + session), places[session]);
            due("ofRoom(0, " + (20 + session) + ")", x.ofRoom(0, 20 + session), taken[session]);
            due("ofRoom(0, " + (30 + session) + ")", x.ofRoom(0, 30 + session), healthy[session]);
            due("ofRoom(1, " + (20 + session) + ")", x.ofRoom(1, 20 + session), session == 0 ? 1 : 0);
        }
        NurseryPlaces empty = Nurseries.withRooms(1);
        for (int what = 4; what < 40; what++) {
            if (what < 6 || what > 9) due("an empty room: ofRoom(0, " + what + ")", empty.ofRoom(0, what), 0);
        }
    }

    private static void ofRoomNoSuch() {
        CHECK.sentence("Promise 13", "NO_SUCH if there is no such room");
        for (int room : new int[] {-1, 2, 5, Integer.MIN_VALUE, Integer.MAX_VALUE}) {
            refused("ofRoom(" + room + ", 10)", -1, Nurseries::busy, x -> x.ofRoom(room, 10));
            due("ofRoom(" + room + ", 0)", Nurseries.busy().ofRoom(room, 0), -1);
            due("ofRoom(" + room + ", 20)", Nurseries.busy().ofRoom(room, 20), -1);
            due("ofRoom(" + room + ", 30)", Nurseries.busy().ofRoom(room, 30), -1);
        }
        due("the last of 5 rooms", Nurseries.withRooms(5).ofRoom(4, 0), 4);
        due("behind it", Nurseries.withRooms(5).ofRoom(5, 0), -1);
    }

    private static void ofRoomBadValue() {
        CHECK.sentence("Promise 13", "BAD_VALUE if what is out of range.");
        for (int what : new int[] {-1, 6, 7, 8, 9, 40, Integer.MIN_VALUE, Integer.MAX_VALUE}) {
            refused("ofRoom(0, " + what + ")", -2, Nurseries::busy, x -> x.ofRoom(0, what));
        }
        int[] what = {0, 5, 10, 19, 20, 29, 30, 39};
        int[] answers = {0, 1 + 4, 3, 3, 2, 0, 0, 0};
        for (int i = 0; i < what.length; i++) due("ofRoom(0, " + what[i] + ")", Nurseries.busy().ofRoom(0, what[i]), answers[i]);
    }

    private static void ofCarerWhat() {
        CHECK.sentence("Promise 14", "- `what`: 0 the room, 1 the days, 2 and 3 the shift, 4 whether sick in this week (1 or 0)");
        NurseryPlaces x = Nurseries.withRooms(5);
        x.carer(4, 31, 9, 10);
        x.carer(0, 1, 0, 1);
        x.sick(0);
        int[] first = {4, 31, 9, 10, 1};
        int[] second = {0, 1, 0, 1, 0};
        for (int what = 0; what < 5; what++) {
            due("ofCarer(0, " + what + ")", x.ofCarer(0, what), first[what]);
            due("ofCarer(1, " + what + ")", x.ofCarer(1, what), second[what]);
        }
    }

    private static void ofCarerNoSuch() {
        CHECK.sentence("Promise 14", "NO_SUCH if there is no such carer");
        for (int carer : new int[] {-1, 2, -6, Integer.MIN_VALUE, Integer.MAX_VALUE}) {
            refused("ofCarer(" + carer + ", 0)", -1, Nurseries::busy, x -> x.ofCarer(carer, 0));
        }
        due("the last of 12 carers", Nurseries.withCarers(12).ofCarer(11, 1), 31);
        due("behind it", Nurseries.withCarers(12).ofCarer(12, 1), -1);
        NurseryPlaces x = Nurseries.withCarers(12);
        x.moreBy(0, 31, 0, 10);
        due("moreBy() has hired nobody", x.ofCarer(12, 1), -1);
    }

    private static void ofCarerBadValue() {
        CHECK.sentence("Promise 14", "BAD_VALUE if what is out of range.");
        for (int what : new int[] {-1, 5, Integer.MIN_VALUE, Integer.MAX_VALUE}) {
            refused("ofCarer(0, " + what + ")", -2, Nurseries::busy, x -> x.ofCarer(0, what));
        }
        due("the first", Nurseries.busy().ofCarer(1, 0), 1);
        due("the last", Nurseries.busy().ofCarer(0, 4), 1);
    }

    private static void ofChildWhat() {
        CHECK.sentence("Promise 15", "- `what`: 0 its age, 1 its family, 2 its wish, 3 its state");
        NurseryPlaces x = Nurseries.busy();
        int[][] children = {
            {10, 0, 7, 1, 0, 7, 1, 0, -6, 6, 0, 18000, 0},
            {40, 1, 56, 1, 1, 56, 1, 0, -6, 6, 0, 18000, 0},
            {10, 2, 3, 1, 0, 3, 0, 0, 9, 0, 0, 0, 2},
            {72, 3, 1023, 0, -6, 0, 0, 0, -6, 0, 0, 0, 2},
            {20, 0, 192, 2, -6, 0, 0, 0, -6, 0, 0, 0, 2}};
        for (int child = 0; child < 5; child++) {
            for (int what = 0; what < 13; what++) due("ofChild(" + child + ", " + what + ")", x.ofChild(child, what), children[child][what]);
        }
        x.weeks(1);
        due("3 sessions of 0 without a place", x.ofChild(0, 10), 3);
        due("it came to none of them", x.ofChild(0, 9), 6);
        due("the visit of 2 was without a place", x.ofChild(2, 10), 1);
        due("it did not take place", x.ofChild(2, 7), 0);
        due("1 came", x.ofChild(1, 9), 9);
        due("and paid", x.ofChild(1, 11), 27000);
    }

    private static void ofChildVisits() {
        CHECK.sentence("Promise 15", "7 its visits so far, 8 the session of its planned visit (NONE), 9 the sessions to which it came as a settled child so far, 10 how often it was sent home from a session or a visit, 11 what it paid so far");
        NurseryPlaces x = Nurseries.withPlaces(1);
        x.set(3, 2);
        x.child(10, 0, 1 + 2);
        x.admit();
        x.visit(0, 0);
        due("session 0 is not NONE", x.ofChild(0, 8), 0);
        x.weeks(1);
        x.visit(0, 1);
        x.weeks(1);
        due("2 visits", x.ofChild(0, 7), 2);
        due("none is planned", x.ofChild(0, 8), -6);
        due("visits are no sessions of a settled child", x.ofChild(0, 9), 0);
        due("and cost nothing", x.ofChild(0, 11), 0);
        x.sick(0);
        x.weeks(2);
        due("visits stay", x.ofChild(0, 7), 2);
        due("2 sessions", x.ofChild(0, 9), 2);
        due("2 from which it was sent home", x.ofChild(0, 10), 2);
        due("paid", x.ofChild(0, 11), 6000);
        x.leave(0);
        due("when it is gone: visits", x.ofChild(0, 7), 2);
        due("sessions", x.ofChild(0, 9), 2);
        due("sent home", x.ofChild(0, 10), 2);
        due("paid", x.ofChild(0, 11), 6000);
    }

    private static void ofChildNotPlaced() {
        CHECK.sentence("Promise 15", "4 its room (NONE if it is not PLACED), 5 its sessions (a set; 0 if it is not PLACED), 6 whether it is settled (1 or 0; 0 if it is not PLACED)");
        NurseryPlaces x = Nurseries.withPlaces(1);
        x.set(3, 0);
        x.child(10, 0, 1 + 512);
        int[][] due = {{-6, 0, 0}, {0, 513, 1}, {-6, 0, 0}};
        for (int state = 0; state < 3; state++) {
            if (state == 1) x.admit();
            if (state == 2) x.leave(0);
            due("the state", x.ofChild(0, 3), state);
            for (int what = 4; what < 7; what++) due("ofChild(0, " + what + ") in state " + state, x.ofChild(0, what), due[state][what - 4]);
        }
    }

    private static void ofChildWeek() {
        CHECK.sentence("Promise 15", "12 the week in which it came, or was WAITING again last");
        NurseryPlaces x = Nurseries.withTwoRooms(1);
        x.weeks(3);
        x.child(20, 0, 1);
        x.child(11, 0, 1);
        x.admit();
        due("it came", x.ofChild(1, 12), 3);
        x.weeks(1);
        due("it waits again", x.ofChild(1, 12), 4);
        x.leave(0);
        x.admit();
        x.weeks(5);
        due("not when it is placed, nor when weeks pass", x.ofChild(1, 12), 4);
        x.leave(1);
        due("nor when it is gone", x.ofChild(1, 12), 4);
    }

    private static void ofChildNoSuch() {
        CHECK.sentence("Promise 15", "NO_SUCH if there is no such child");
        for (int child : new int[] {-1, 5, Integer.MIN_VALUE, Integer.MAX_VALUE}) {
            refused("ofChild(" + child + ", 0)", -1, Nurseries::busy, x -> x.ofChild(child, 0));
        }
        due("the last of 24 children", Nurseries.withChildren(24).ofChild(23, 0), 10);
        due("behind it", Nurseries.withChildren(24).ofChild(24, 0), -1);
    }

    private static void ofChildBadValue() {
        CHECK.sentence("Promise 15", "BAD_VALUE if what is out of range.");
        for (int what : new int[] {-1, 13, Integer.MIN_VALUE, Integer.MAX_VALUE}) {
            refused("ofChild(0, " + what + ")", -2, Nurseries::busy, x -> x.ofChild(0, what));
        }
        due("the first", Nurseries.busy().ofChild(0, 0), 10);
        due("the last", Nurseries.busy().ofChild(2, 12), 2);
    }

    private static void countWhat() {
        CHECK.sentence("Promise 16", "- `what`: 0 the week, 1 rooms, 2 carers, 3 children that ever came, 4 to 6 the sets of children in the states 0 to 2, 7 the set of settled ones, 8 all that was paid, 9 visits that took place, 10 how often children were sent home, 11 visits that are planned, 12 the length of the pad, 13 how many changes can be undone, 14 to 18 the settings");
        NurseryPlaces x = Nurseries.busy();
        int[] counts = {2, 2, 2, 5, 8, 7, 16, 3, 36000, 0, 0, 1, 7, 6, 3000, 20, 2, 2, 12};
        for (int what = 0; what < 19; what++) due("count(" + what + ")", x.count(what), counts[what]);
        x.weeks(1);
        due("1 paid for 3 sessions more", x.count(8), 45000);
        due("the visit did not take place", x.count(9), 0);
        due("0 and 2 were sent home", x.count(10), 4);
        x.visit(2, 9);
        x.weeks(1);
        due("a visit took place", x.count(9), 1);
        due("0 and 1 paid", x.count(8), 63000);
        x.leave(0);
        x.leave(1);
        x.leave(2);
        due("what gone ones paid", x.count(8), 63000);
        due("their visits", x.count(9), 1);
        due("how often they were sent home", x.count(10), 4);
        due("all but 3 are gone", x.count(6), 1 + 2 + 4 + 16);
        for (int setting = 0; setting < 5; setting++) {
            x.set(setting, 7);
            due("count(" + (14 + setting) + ")", x.count(14 + setting), 7);
        }
        x = Nurseries.withChildren(24);
        due("24 children, one of them gone", x.count(3), 24);
        due("waiting ones", x.count(4), (1 << 23) - 2);
        due("placed ones", x.count(5), 1 << 23);
        due("gone ones", x.count(6), 1);
    }

    private static void countOfManyCalls() {
        CHECK.sentence("Promise 16", "8 all that was paid");
        NurseryPlaces x = new NurseryPlaces();
        x.room(0, 72, 40, 12);
        for (int i = 0; i < 2; i++) x.carer(0, 31, 0, 10);
        x.set(0, 10000);
        x.set(1, 0);
        x.set(3, 0);
        for (int i = 0; i < 24; i++) x.child(0, i % 16, 1023);
        x.admit();
        for (int i = 0; i < 10; i++) x.weeks(52);
        due("24 children come to 10 sessions for 10000 in each of 4 * 72 weeks", x.count(8), 24 * 10 * 10000 * 288);
        due("then all are gone", x.count(6), (1 << 24) - 1);
    }

    private static void countBadValue() {
        CHECK.sentence("Promise 16", "BAD_VALUE if what is out of range.");
        for (int what : new int[] {-1, 19, Integer.MIN_VALUE, Integer.MAX_VALUE}) {
            refused("count(" + what + ")", -2, Nurseries::busy, x -> x.count(what));
        }
        due("the first", Nurseries.busy().count(0), 2);
        due("the last", Nurseries.busy().count(18), 12);
    }

    private static void askingChangesNothing() {
        CHECK.sentence("Terms", "Ahead of the calls `ofRoom`, `ofCarer`, `ofChild`, `count` the interface says: ---- what there is.");
        Unchanged.due(CHECK, "ofRoom(0, 39)", Nurseries::busy, x -> x.ofRoom(0, 39), 0);
        Unchanged.due(CHECK, "ofCarer(0, 4)", Nurseries::busy, x -> x.ofCarer(0, 4), 1);
        Unchanged.due(CHECK, "ofChild(2, 8)", Nurseries::busy, x -> x.ofChild(2, 8), 9);
        Unchanged.due(CHECK, "count(13)", Nurseries::busy, x -> x.count(13), 6);
    }

    private static void freePlaces() {
        CHECK.sentence("Promise 17", "Tells how many more children could be taken in a session of a room.");
        NurseryPlaces x = Nurseries.busy();
        int[] first = {1, 1, 2, 3, 3, 3, 3, 3, 3, 3};
        int[] second = {3, 3, 3, 2, 2, 2, 3, 3, 3, 3};
        for (int session = 0; session < 10; session++) {
            due("free(0, " + session + "), a sick carer counts, a visit does not", x.free(0, session), first[session]);
            due("free(1, " + session + ")", x.free(1, session), second[session]);
            int at = session;
            int answer = first[session];
            Unchanged.due(CHECK, "free(0, " + at + ")", Nurseries::busy, y -> y.free(0, at), answer);
        }
    }

    private static void freeNone() {
        CHECK.sentence("Promise 17", "Returns the places that are not taken (0 if more are taken than there are)");
        NurseryPlaces x = Nurseries.withPlaces(2);
        for (int taken = 0; taken < 4; taken++) {
            due(taken + " children wish one of 2 places", x.free(0, 0), Math.max(0, 2 - taken));
            x.child(10, taken, 1);
            x.admit();
        }
        due("a room without carers", Nurseries.withRooms(1).free(0, 0), 0);
    }

    private static void freeNoSuch() {
        CHECK.sentence("Promise 17", "NO_SUCH if there is no such room or session.");
        for (int room : new int[] {-1, 2, 5, Integer.MIN_VALUE, Integer.MAX_VALUE}) {
            refused("free(" + room + ", 0)", -1, Nurseries::busy, x -> x.free(room, 0));
        }
        for (int session : new int[] {-1, 10, Integer.MIN_VALUE, Integer.MAX_VALUE}) {
            refused("free(0, " + session + ")", -1, Nurseries::busy, x -> x.free(0, session));
        }
        due("the last room, and the last session", Nurseries.busy().free(1, 9), 3);
    }
}
