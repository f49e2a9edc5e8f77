/** Promises 11 and 12: sick, and a week that passes, step by step. */
public final class WeekTest {
    private static final Check CHECK = new Check("WeekTest");

    public static void main(String[] args) {
        sick();
        range();
        whoIsSentHome();
        visitsAreSentHomeFirst();
        visitsGoHomeByTheirNumbers();
        placedLastIsNotTheGreatestNumber();
        fees();
        settling();
        ages();
        moving();
        movingIntoFullSessions();
        movingInAscendingOrder();
        patience();
        CHECK.finish();
    }

    private static void due(String call, int got, int want) {
        CHECK.due(call, got, want);
    }

    /** One room with two places for each carer, as many carers at all hours, LEAST 1, and settled at once. */
    private static NurseryPlaces withCarers(int carers) {
        NurseryPlaces x = new NurseryPlaces();
        x.room(0, 72, 40, 2);
        for (int i = 0; i < carers; i++) x.carer(0, 31, 0, 10);
        x.set(2, 1);
        x.set(3, 0);
        return x;
    }

    private static void sick() {
        NurseryPlaces x = withCarers(3);
        due("no such carer", x.sick(3), -1);
        due("no such carer", x.sick(-1), -1);
        due("NONE is no carer here", x.sick(-6), -1);
        due("sick(1)", x.sick(1), 1);
        due("sick(0)", x.sick(0), 2);
        due("sick(1) again", x.sick(1), -5);
        due("1 is sick", x.ofCarer(1, 4), 1);
        due("2 is not", x.ofCarer(2, 4), 0);
        x.weeks(1);
        due("1 is not sick any more", x.ofCarer(1, 4), 0);
        due("sick(1)", x.sick(1), 1);
    }

    private static void range() {
        NurseryPlaces x = new NurseryPlaces();
        due("weeks(0)", x.weeks(0), -2);
        due("weeks(-1)", x.weeks(-1), -2);
        due("weeks(53)", x.weeks(53), -2);
        due("weeks(MAX)", x.weeks(Integer.MAX_VALUE), -2);
        due("weeks(1)", x.weeks(1), 1);
        due("weeks(52)", x.weeks(52), 53);
        due("the week", x.count(0), 53);
    }

    private static void whoIsSentHome() {
        NurseryPlaces x = withCarers(2);
        for (int i = 0; i < 4; i++) x.child(10, i, i == 3 ? 6 : 3);
        x.admit();
        x.sick(0);
        x.weeks(1);
        int[] home = {0, 0, 2, 1};
        int[] came = {2, 2, 0, 1};
        for (int i = 0; i < 4; i++) {
            due("sent home " + i, x.ofChild(i, 10), home[i]);
            due("came " + i, x.ofChild(i, 9), came[i]);
            due("paid " + i, x.ofChild(i, 11), 3000 * came[i]);
        }
        due("sent home", x.count(10), 3);
        x.weeks(1);
        due("nobody was sent home with both carers there", x.count(10), 3);
        x.sick(0);
        x.sick(1);
        x.weeks(1);
        due("all are sent home", x.count(10), 3 + 8);
        due("and nobody paid", x.count(8), 3000 * (5 + 8));
        x.weeks(51);
        due("how often 0 came", x.ofChild(0, 9), 2 + 2 + 2 * 51);
    }

    private static void visitsAreSentHomeFirst() {
        NurseryPlaces x = withCarers(2);
        x.child(10, 0, 3);
        x.admit();
        x.set(3, 9);
        x.child(10, 1, 3);
        x.child(10, 2, 3);
        x.child(10, 3, 4);
        x.admit();
        x.visit(1, 0);
        x.visit(2, 0);
        x.visit(3, 0);
        due("three visits are planned", x.count(11), 3);
        x.sick(1);
        x.weeks(1);
        due("two places: 2 and 3 are sent home", x.count(10), 2);
        due("0 came", x.ofChild(0, 9), 2);
        due("1 came", x.ofChild(1, 7), 1);
        due("2 did not", x.ofChild(2, 7), 0);
        due("3 did not", x.ofChild(3, 10), 1);
        due("one visit took place", x.count(9), 1);
        due("no visit is planned", x.count(11), 0);
        x.visit(1, 1);
        x.sick(0);
        x.sick(1);
        x.weeks(1);
        due("no place at all: the visit too", x.ofChild(1, 10), 1);
        due("and both sessions of 0", x.ofChild(0, 10), 2);
        due("unsettled ones without a visit come to nothing", x.ofChild(2, 10), 1);
    }

    private static void visitsGoHomeByTheirNumbers() {
        NurseryPlaces x = withCarers(1);
        x.set(3, 1);
        x.child(10, 0, 1);
        x.admit();
        x.set(3, 0);
        x.child(10, 1, 1);
        x.admit();
        x.visit(0, 0);
        due("a visit and a settled one", x.sentHome(-6), 0);
        x.sick(0);
        x.weeks(1);
        due("both", x.count(10), 2);
        x = withCarers(2);
        x.set(3, 1);
        x.child(10, 0, 1);
        x.admit();
        x.set(3, 0);
        for (int i = 1; i < 3; i++) x.child(10, i, 1);
        x.admit();
        x.visit(0, 0);
        x.sick(0);
        x.set(3, 1);
        x.weeks(1);
        due("the visit goes before those that were placed later", x.ofChild(0, 10), 1);
        due("1 stays", x.ofChild(1, 9), 1);
        due("2 stays", x.ofChild(2, 9), 1);
        x = withCarers(2);
        x.set(3, 1);
        x.child(10, 0, 1);
        x.admit();
        x.child(10, 1, 1);
        x.child(10, 0, 1);
        x.admit();
        for (int i = 0; i < 3; i++) x.visit(i, 0);
        x.sick(0);
        x.weeks(1);
        due("of the visits, the greatest number goes", x.ofChild(2, 10), 1);
        due("not the one that was placed last", x.ofChild(1, 7), 1);
    }

    private static void placedLastIsNotTheGreatestNumber() {
        NurseryPlaces x = withCarers(2);
        x.child(10, 0, 1);
        x.child(72, 1, 1);
        x.child(10, 2, 1);
        x.admit();
        x.child(10, 3, 1);
        x.child(10, 0, 1);
        x.admit();
        due("0, 2, then the sibling 4, then 3", x.count(5), 1 + 4 + 8 + 16);
        x.sick(0);
        x.weeks(1);
        due("3 was placed last", x.ofChild(3, 10), 1);
        due("4 was placed before 3", x.ofChild(4, 10), 1);
        x = withCarers(2);
        x.child(10, 0, 1);
        x.admit();
        x.child(10, 3, 1);
        x.child(10, 0, 1);
        x.admit();
        x.sick(0);
        x.weeks(1);
        due("3 places for 2: the one that was placed last", x.ofChild(1, 10), 1);
        due("not the one with the greatest number", x.ofChild(2, 10), 0);
    }

    private static void fees() {
        NurseryPlaces x = withCarers(3);
        x.child(10, 7, 1);
        x.child(10, 7, 3);
        x.child(10, 8, 1);
        x.admit();
        x.set(0, 333);
        x.set(1, 50);
        x.sick(0);
        x.sick(1);
        x.sick(2);
        x.weeks(1);
        due("who is sent home pays nothing", x.count(8), 0);
        x.weeks(1);
        due("the first one of a family pays all", x.ofChild(0, 11), 333);
        due("the next one half, rounded down for each session", x.ofChild(1, 11), 2 * 166);
        due("the only one of its family pays all", x.ofChild(2, 11), 333);
        due("together", x.count(8), 333 + 332 + 333);
        x.set(3, 9);
        x.child(10, 8, 2);
        x.child(10, 9, 4);
        x.admit();
        x.set(1, 100);
        x.weeks(1);
        due("an unsettled one pays nothing", x.ofChild(3, 11), 0);
        due("all of the fee is taken off", x.ofChild(1, 11), 332);
        x.leave(0);
        x.weeks(1);
        due("without a settled elder one it pays all", x.ofChild(1, 11), 332 + 2 * 333);
        due("what the gone one paid still counts", x.count(8), 998 + 666 + 999);
        x = withCarers(1);
        x.set(3, 1);
        x.child(10, 7, 1);
        x.child(10, 7, 1);
        x.admit();
        x.visit(1, 0);
        x.weeks(1);
        x.weeks(1);
        due("an elder one that is not settled gives no discount", x.ofChild(1, 11), 3000);
        x.visit(0, 0);
        x.weeks(1);
        due("settled behind the fees of this week", x.ofChild(1, 11), 6000);
        x.giveBack(0, 0);
        x.weeks(1);
        due("a settled elder one gives it", x.ofChild(1, 11), 8400);
    }

    private static void settling() {
        NurseryPlaces x = withCarers(2);
        x.set(3, 2);
        x.child(10, 0, 3);
        x.child(10, 1, 3);
        x.admit();
        x.visit(0, 0);
        x.weeks(1);
        due("one visit of two", x.ofChild(0, 6), 0);
        x.visit(0, 9);
        x.weeks(1);
        due("two visits", x.ofChild(0, 6), 1);
        due("visits so far", x.ofChild(0, 7), 2);
        due("it did not pay for the week in which it became settled", x.ofChild(0, 11), 0);
        due("settled ones", x.count(7), 1);
        x.weeks(1);
        due("it comes to its sessions then", x.ofChild(0, 9), 2);
        x.visit(1, 0);
        x.weeks(1);
        x.set(3, 1);
        x.weeks(1);
        due("settled without a visit in this week", x.count(7), 3);
        due("visits in all", x.count(9), 3);
        x.child(72, 3, 3);
        x.set(3, 0);
        x.weeks(1);
        due("a waiting child does not settle", x.ofChild(2, 6), 0);
    }

    private static void ages() {
        NurseryPlaces x = withCarers(2);
        x.child(10, 0, 3);
        x.child(10, 1, 3);
        x.admit();
        x.child(72, 2, 3);
        x.leave(1);
        x.weeks(3);
        due("week 3", x.ofChild(0, 0), 10);
        x.weeks(1);
        due("week 4", x.ofChild(0, 0), 11);
        due("a gone one does not age", x.ofChild(1, 0), 10);
        due("a waiting one does", x.ofChild(2, 0), 73);
        x.weeks(8);
        due("week 12", x.ofChild(0, 0), 13);
        due("patient until now", x.ofChild(2, 3), 0);
        x.weeks(4);
        due("gone in week 13, at 75", x.ofChild(2, 0), 75);
        due("week 16", x.ofChild(0, 0), 14);
    }

    private static void moving() {
        NurseryPlaces x = new NurseryPlaces();
        x.room(0, 11, 5, 5);
        x.room(11, 12, 5, 5);
        x.room(20, 30, 5, 5);
        x.carer(0, 31, 0, 10);
        x.carer(1, 3, 0, 10);
        x.child(10, 0, 1 + 2 + 4 + 16);
        x.child(10, 1, 1 + 64 + 128);
        x.child(11, 2, 3);
        x.admit();
        x.visit(0, 0);
        x.visit(1, 0);
        x.visit(2, 0);
        x.weeks(3);
        due("still in room 0", x.ofChild(0, 4), 0);
        x.weeks(1);
        due("0 is in room 1", x.ofChild(0, 4), 1);
        due("0 keeps what there is", x.ofChild(0, 5), 7);
        due("its visits stay", x.ofChild(0, 7), 1);
        int[] again = {11, 1, 193, 0, -6, 0, 0, 0, -6, 0, 0, 0, 4};
        for (int what = 0; what < again.length; what++) due("waits again: ofChild(1, " + what + ")", x.ofChild(1, what), again[what]);
        due("2 has no room any more", x.ofChild(2, 3), 2);
        due("room 0 is empty", x.ofRoom(0, 5), 0);
        due("room 1", x.ofRoom(1, 5), 1);
        x.weeks(4);
        due("then 0 is gone", x.ofChild(0, 3), 2);
        due("its room is none", x.ofChild(0, 4), -6);
        due("1 waits", x.ofChild(1, 3), 0);
        x.weeks(8);
        due("1 waits 12 weeks", x.ofChild(1, 3), 0);
        x.weeks(1);
        due("13 weeks behind the move it is gone", x.ofChild(1, 3), 2);
    }

    private static void movingIntoFullSessions() {
        NurseryPlaces x = new NurseryPlaces();
        x.room(0, 11, 5, 5);
        x.room(11, 72, 1, 1);
        x.carer(0, 31, 0, 10);
        x.carer(1, 31, 0, 10);
        x.set(3, 0);
        x.child(10, 0, 7);
        x.child(40, 1, 1 + 8);
        x.admit();
        x.weeks(3);
        x.sick(1);
        x.weeks(1);
        due("the session of 1 is full, and nobody is sick any more", x.ofChild(0, 5), 6);
        due("settled as before", x.ofChild(0, 6), 1);
        x.set(2, 3);
        x.weeks(40);
        due("a later LEAST takes nothing", x.ofChild(0, 5), 6);
        x = new NurseryPlaces();
        x.room(0, 11, 5, 5);
        x.room(11, 72, 1, 1);
        x.carer(0, 31, 0, 10);
        x.carer(1, 31, 0, 10);
        x.set(3, 0);
        x.child(10, 0, 7);
        x.admit();
        x.set(2, 4);
        x.weeks(4);
        due("all that it has are fewer than LEAST", x.ofChild(0, 3), 0);
        due("not settled", x.ofChild(0, 6), 0);
        x.set(2, 2);
        due("it is admitted once more", x.admit(), 1);
        due("in the room of its age", x.ofChild(0, 4), 1);
        due("with its wish", x.ofChild(0, 5), 7);
    }

    private static void movingInAscendingOrder() {
        NurseryPlaces x = new NurseryPlaces();
        x.room(0, 11, 5, 5);
        x.room(11, 13, 1, 1);
        x.carer(0, 31, 0, 10);
        x.carer(1, 31, 0, 10);
        x.set(3, 0);
        x.child(10, 0, 3);
        x.child(12, 1, 3);
        x.child(10, 2, 3);
        x.admit();
        x.weeks(4);
        due("0 finds the place of 1 taken", x.ofChild(0, 3), 0);
        due("1 leaves", x.ofChild(1, 3), 2);
        due("2 gets the place that 1 left", x.ofChild(2, 4), 1);
        x.child(0, 5, 3);
        x.child(0, 5, 3);
        x.leave(2);
        x.admit();
        due("0 is placed last but two", x.count(5), 1 + 8 + 16);
        x.carer(1, 31, 0, 10);
        x.weeks(4);
        due("0 is 12 now", x.ofChild(0, 0), 12);
        due("and stays", x.ofChild(0, 4), 1);
    }

    private static void patience() {
        NurseryPlaces x = new NurseryPlaces();
        x.set(4, 2);
        x.child(10, 0, 3);
        x.weeks(1);
        x.child(10, 1, 3);
        due("week of 1", x.ofChild(1, 12), 1);
        x.weeks(1);
        due("2 weeks are not more than 2", x.count(4), 3);
        x.weeks(1);
        due("3 weeks are", x.count(4), 2);
        due("gone", x.count(6), 1);
        x.set(4, 0);
        x.child(10, 2, 3);
        x.weeks(1);
        due("with no patience a week is too long", x.count(4), 0);
        x.set(4, 99);
        x.child(10, 2, 3);
        x.weeks(52);
        x.weeks(47);
        due("99 weeks", x.ofChild(3, 3), 0);
        x.weeks(1);
        due("100 weeks", x.ofChild(3, 3), 2);
    }
}
