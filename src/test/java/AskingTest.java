/** Promises 13 to 17: ofRoom, ofCarer, ofChild, count, free. */
public final class AskingTest {
    private static final Check CHECK = new Check("AskingTest");

    public static void main(String[] args) {
        NurseryPlaces x = nursery();
        ofRoom(x);
        ofCarer(x);
        ofChild(x);
        count(x);
        free(x);
        CHECK.due("nothing was a change", x.count(13), 6);
        CHECK.finish();
    }

    private static void due(String call, int got, int want) {
        CHECK.due(call, got, want);
    }

    /** Room 1 has 2 places for a carer: one all week, one on the days 0 and 1 from hour 2 on, a sick one on day 4 until 6. */
    private static NurseryPlaces nursery() {
        NurseryPlaces x = new NurseryPlaces();
        x.room(0, 1, 40, 12);
        x.room(10, 40, 5, 2);
        x.carer(1, 31, 0, 10);
        x.carer(1, 3, 2, 10);
        x.carer(0, 31, 0, 5);
        x.carer(1, 16, 0, 6);
        x.set(2, 1);
        x.child(10, 3, 1 + 2 + 512);
        x.child(12, 4, 1 + 2);
        x.child(12, 5, 2 + 4);
        x.child(60, 5, 1023);
        x.child(20, 6, 8 + 16);
        x.admit();
        x.set(3, 0);
        x.weeks(1);
        x.set(3, 3);
        x.child(20, 6, 32);
        x.admit();
        x.leave(1);
        x.visit(5, 8);
        x.sick(3);
        x.weeks(1);
        x.sick(3);
        x.visit(5, 9);
        return x;
    }

    private static void ofRoom(NurseryPlaces x) {
        due("ofRoom(2, 0)", x.ofRoom(2, 0), -1);
        due("ofRoom(-1, 0)", x.ofRoom(-1, 0), -1);
        due("ofRoom(2, 99)", x.ofRoom(2, 99), -1);
        int[] bad = {-1, 6, 7, 8, 9, 40, Integer.MAX_VALUE, Integer.MIN_VALUE};
        for (int what : bad) due("ofRoom(1, " + what + ")", x.ofRoom(1, what), -2);
        int[] plain = {10, 40, 5, 2, 1 + 2 + 8, 1 + 4 + 16 + 32};
        int[] places = {2, 4, 2, 4, 2, 2, 2, 2, 4, 2};
        int[] taken = {1, 2, 1, 1, 1, 1, 0, 0, 0, 1};
        int[] healthy = {2, 4, 2, 4, 2, 2, 2, 2, 2, 2};
        for (int i = 0; i < plain.length; i++) due("ofRoom(1, " + i + ")", x.ofRoom(1, i), plain[i]);
        for (int i = 0; i < 10; i++) {
            due("places, session " + i, x.ofRoom(1, 10 + i), places[i]);
            due("taken, session " + i, x.ofRoom(1, 20 + i), taken[i]);
            due("places without sick ones, session " + i, x.ofRoom(1, 30 + i), healthy[i]);
            due("places of room 0, session " + i, x.ofRoom(0, 10 + i), i % 2 == 0 ? 12 : 0);
        }
        due("ofRoom(0, 4)", x.ofRoom(0, 4), 4);
        due("ofRoom(0, 5)", x.ofRoom(0, 5), 0);
    }

    private static void ofCarer(NurseryPlaces x) {
        int[] carer = {1, 16, 0, 6, 1};
        for (int what = 0; what < 5; what++) due("ofCarer(3, " + what + ")", x.ofCarer(3, what), carer[what]);
        due("ofCarer(0, 4)", x.ofCarer(0, 4), 0);
        due("ofCarer(3, -1)", x.ofCarer(3, -1), -2);
        due("ofCarer(3, 5)", x.ofCarer(3, 5), -2);
        due("ofCarer(4, 0)", x.ofCarer(4, 0), -1);
        due("ofCarer(-1, 0)", x.ofCarer(-1, 0), -1);
        due("ofCarer(4, 5)", x.ofCarer(4, 5), -1);
    }

    private static void ofChild(NurseryPlaces x) {
        int[][] children = {
            {10, 3, 515, 1, 1, 515, 1, 0, -6, 3, 0, 9000, 0},
            {12, 4, 3, 2, -6, 0, 0, 0, -6, 0, 0, 0, 0},
            {12, 5, 6, 1, 1, 6, 1, 0, -6, 2, 0, 6000, 0},
            {60, 5, 1023, 0, -6, 0, 0, 0, -6, 0, 0, 0, 0},
            {20, 6, 24, 1, 1, 24, 1, 0, -6, 2, 0, 6000, 0},
            {20, 6, 32, 1, 1, 32, 0, 1, 9, 0, 0, 0, 1}};
        for (int child = 0; child < children.length; child++) {
            for (int what = 0; what < 13; what++) {
                due("ofChild(" + child + ", " + what + ")", x.ofChild(child, what), children[child][what]);
            }
        }
        due("ofChild(0, -1)", x.ofChild(0, -1), -2);
        due("ofChild(0, 13)", x.ofChild(0, 13), -2);
        due("ofChild(6, 0)", x.ofChild(6, 0), -1);
        due("ofChild(-1, 0)", x.ofChild(-1, 0), -1);
        due("ofChild(6, 13)", x.ofChild(6, 13), -1);
    }

    private static void count(NurseryPlaces x) {
        x.put('a');
        int[] counts = {2, 2, 4, 6, 8, 1 + 4 + 16 + 32, 2, 1 + 4 + 16, 21000, 1, 0, 1, 1, 6, 3000, 20, 1, 3, 12};
        for (int what = 0; what < counts.length; what++) due("count(" + what + ")", x.count(what), counts[what]);
        due("count(-1)", x.count(-1), -2);
        due("count(19)", x.count(19), -2);
        due("count(MAX)", x.count(Integer.MAX_VALUE), -2);
    }

    private static void free(NurseryPlaces x) {
        int[] free = {1, 2, 1, 3, 1, 1, 2, 2, 4, 1};
        for (int i = 0; i < 10; i++) due("free(1, " + i + ")", x.free(1, i), free[i]);
        NurseryPlaces full = new NurseryPlaces();
        full.room(0, 72, 1, 1);
        full.carer(0, 1, 0, 10);
        full.child(1, 1, 3);
        full.admit();
        due("no place is left", full.free(0, 0), 0);
        due("there never was one", full.free(0, 2), 0);
        due("free(2, 0)", x.free(2, 0), -1);
        due("free(-1, 0)", x.free(-1, 0), -1);
        due("free(1, 10)", x.free(1, 10), -1);
        due("free(1, -1)", x.free(1, -1), -1);
    }
}
