import java.util.function.Supplier;

/** A week that passes, and the promises 11 and 12: a test for each sentence that names a boundary. */
public final class WeekBoundsTest {
    private static final Check CHECK = new Check("WeekBoundsTest");

    public static void main(String[] args) {
        sickThisWeek();
        sickOnes();
        sickNoSuch();
        sickNotPossible();
        weeksRange();
        weeksThen();
        weeksBadValue();
        thoseWhoCome();
        eachRoomAndSession();
        untilTheyAreNotMore();
        sentHomeOfAllThatThereCanBe();
        visitsFirst();
        greatestNumberFirst();
        placedLast();
        moversKeepTheirPlacing();
        pricePaid();
        discountForSiblings();
        visitThatTookPlaceCounts();
        visitsOrMore();
        behindStepOne();
        monthOlder();
        noSickNoVisits();
        ageNotInTheBand();
        noRoomOfItsAge();
        fewerTakenInTheNewRoom();
        presentSessions();
        leastOrMore();
        waitingAgain();
        inAscendingOrder();
        moreThanPatience();
        patienceOfOneThatWaitsAgain();
        CHECK.finish();
    }

    private static void due(String call, int got, int want) {
        CHECK.due(call, got, want);
    }

    private static void refused(String call, int code, Supplier<NurseryPlaces> maker, Unchanged.Call refused) {
        Unchanged.due(CHECK, call, maker, refused, code);
    }

    private static void sickThisWeek() {
        CHECK.sentence("Promise 11", "A carer is sick in the present week.");
        NurseryPlaces x = Nurseries.withCarers(2);
        x.sick(1);
        due("carer 1 is", x.ofCarer(1, 4), 1);
        due("carer 0 is not", x.ofCarer(0, 4), 0);
        due("places without sick ones", x.ofRoom(0, 30), 1);
        x.weeks(1);
        due("not in the next week", x.ofCarer(1, 4), 0);
    }

    private static void sickOnes() {
        CHECK.sentence("Promise 11", "Returns how many are sick then");
        NurseryPlaces x = Nurseries.withCarers(12);
        for (int i = 0; i < 12; i++) due("sick(" + (11 - i) + ")", x.sick(11 - i), i + 1);
        x.weeks(1);
        due("sick(5) in the next week", x.sick(5), 1);
    }

    private static void sickNoSuch() {
        CHECK.sentence("Promise 11", "NO_SUCH if there is no such carer");
        for (int carer : new int[] {-1, 2, -6, Integer.MIN_VALUE, Integer.MAX_VALUE}) {
            refused("sick(" + carer + ")", -1, Nurseries::busy, x -> x.sick(carer));
        }
        refused("sick(12)", -1, () -> Nurseries.withCarers(12), x -> x.sick(12));
        due("the first one", Nurseries.withCarers(12).sick(0), 1);
        due("the last one", Nurseries.withCarers(12).sick(11), 1);
    }

    private static void sickNotPossible() {
        CHECK.sentence("Promise 11", "NOT_POSSIBLE if this one is sick already.");
        refused("sick(0)", -5, Nurseries::busy, x -> x.sick(0));
        due("another one is sick", Nurseries.busy().sick(1), 2);
        NurseryPlaces x = Nurseries.busy();
        x.weeks(1);
        due("it was sick last week", x.sick(0), 1);
    }

    private static void weeksRange() {
        CHECK.sentence("Promise 12", "- `weeks`: 1 to 52");
        refused("weeks(0)", -2, Nurseries::busy, x -> x.weeks(0));
        refused("weeks(53)", -2, Nurseries::busy, x -> x.weeks(53));
        due("weeks(1)", new NurseryPlaces().weeks(1), 1);
        due("weeks(52)", new NurseryPlaces().weeks(52), 52);
    }

    private static void weeksThen() {
        CHECK.sentence("Promise 12", "Returns the week then");
        NurseryPlaces x = new NurseryPlaces();
        due("weeks(3)", x.weeks(3), 3);
        due("weeks(52)", x.weeks(52), 55);
        due("weeks(1)", x.weeks(1), 56);
        due("count(0)", x.count(0), 56);
    }

    private static void weeksBadValue() {
        CHECK.sentence("Promise 12", "BAD_VALUE if weeks is out of range.");
        for (int weeks : new int[] {-1, 1024, Integer.MIN_VALUE, Integer.MAX_VALUE}) {
            refused("weeks(" + weeks + ")", -2, Nurseries::busy, x -> x.weeks(weeks));
        }
    }

    private static void thoseWhoCome() {
        CHECK.sentence("Terms", "those who come are the settled children of the room who have this session, and the visits that are planned.");
        NurseryPlaces x = Nurseries.withCarers(4);
        x.child(10, 0, 1);
        x.child(10, 1, 2);
        x.admit();
        x.set(3, 3);
        x.child(10, 2, 1);
        x.child(10, 3, 1);
        x.admit();
        x.visit(3, 2);
        for (int carer = 0; carer < 3; carer++) x.sick(carer);
        x.weeks(1);
        due("one place is enough for each: nobody is sent home", x.count(10), 0);
        int[] came = {1, 1, 0, 0};
        int[] visits = {0, 0, 0, 1};
        for (int i = 0; i < 4; i++) {
            due("sessions to which " + i + " came", x.ofChild(i, 9), came[i]);
            due("visits of " + i, x.ofChild(i, 7), visits[i]);
        }
        x = Nurseries.withTwoRooms(1);
        x.child(5, 0, 1);
        x.child(20, 1, 1);
        x.admit();
        due("a child of another room does not come", x.sentHome(-6), 0);
        x.weeks(1);
        due("each came to its own room", x.ofChild(0, 9) + x.ofChild(1, 9), 2);
    }

    private static void eachRoomAndSession() {
        CHECK.sentence("Terms", "In each room and session (rooms, then sessions, in ascending order)");
        for (int room = 0; room < 5; room++) {
            for (int session = 0; session < 10; session++) {
                NurseryPlaces x = new NurseryPlaces();
                for (int i = 0; i < 5; i++) x.room(i == room ? 10 : 30, i == room ? 11 : 31, 40, 1);
                x.carer(room, 31, 0, 10);
                x.set(2, 1);
                x.set(3, 0);
                x.child(10, 0, 1 << session);
                due("one child in room " + room + ", session " + session, x.admit(), 1);
                due("its room", x.ofChild(0, 4), room);
                x.weeks(1);
                due("came", x.ofChild(0, 9), 1);
                due("paid", x.count(8), 3000);
                due("would be sent home", x.sentHome(0), 1);
                x.sick(0);
                x.weeks(1);
                due("was sent home", x.ofChild(0, 10), 1);
                x.weeks(2);
                due("is too old for its room then", x.ofChild(0, 3), 2);
            }
        }
    }

    private static void untilTheyAreNotMore() {
        CHECK.sentence("Terms", "If they are more than the places without sick carers, some are sent home, until they are not more");
        for (int sick = 0; sick <= 4; sick++) {
            NurseryPlaces x = Nurseries.withCarers(4);
            for (int i = 0; i < 3; i++) x.child(10, i, 1);
            x.admit();
            for (int carer = 0; carer < sick; carer++) x.sick(carer);
            x.weeks(1);
            due("3 come, and " + (4 - sick) + " places are there", x.count(10), Math.max(0, sick - 1));
            due("paid", x.count(8), 3000 * Math.min(3, 4 - sick));
        }
        NurseryPlaces x = new NurseryPlaces();
        x.room(0, 72, 40, 1);
        x.carer(0, 31, 0, 9);
        x.carer(0, 31, 5, 10);
        x.set(3, 0);
        x.child(10, 0, 3);
        x.admit();
        x.sick(1);
        x.weeks(1);
        due("without carer 1 nobody is there in hour 9", x.ofChild(0, 10), 1);
        due("but in all hours of session 0", x.ofChild(0, 9), 1);
    }

    private static void sentHomeOfAllThatThereCanBe() {
        CHECK.sentence("Terms", "some are sent home, until they are not more");
        NurseryPlaces x = Nurseries.withPlaces(24);
        x.set(3, 0);
        for (int i = 0; i < 24; i++) x.child(10, i % 16, 1);
        due("admit()", x.admit(), 24);
        x.sick(0);
        due("sentHome(NONE)", x.sentHome(-6), 12);
        due("sentHome(1)", x.sentHome(1), 24);
        x.weeks(1);
        due("12 of 24 were sent home", x.count(10), 12);
        for (int i = 0; i < 24; i++) {
            boolean isEarly = i <= 5 || i >= 16 && i <= 21;
            due("0 to 5 were placed first, each with its sibling behind it: child " + i, x.ofChild(i, 10), isEarly ? 0 : 1);
        }
        x.sick(0);
        x.sick(1);
        x.weeks(1);
        due("then all 24", x.count(10), 36);
        due("nobody paid for that week", x.count(8), 6 * 3000 + 6 * 2400);
    }

    private static void visitsFirst() {
        CHECK.sentence("Terms", "visits first, the child with the greatest number first; then the child that was placed last.");
        for (int sick = 0; sick <= 4; sick++) {
            NurseryPlaces x = Nurseries.withCarers(4);
            x.set(3, 3);
            x.child(10, 0, 1);
            x.child(10, 1, 2);
            x.admit();
            x.set(3, 0);
            x.child(10, 2, 1);
            x.child(10, 3, 1);
            x.admit();
            x.set(3, 3);
            x.visit(0, 0);
            x.visit(1, 0);
            for (int carer = 0; carer < sick; carer++) x.sick(carer);
            x.weeks(1);
            int[] goesAs = {2, 1, 4, 3};
            for (int i = 0; i < 4; i++) {
                due("child " + i + " with " + (4 - sick) + " places", x.ofChild(i, 10), goesAs[i] <= sick ? 1 : 0);
            }
        }
    }

    private static void greatestNumberFirst() {
        CHECK.sentence("Terms", "the child with the greatest number first");
        NurseryPlaces x = Nurseries.withCarers(3);
        x.set(3, 3);
        x.child(10, 0, 1);
        x.admit();
        x.child(10, 1, 1);
        x.child(10, 0, 1);
        x.admit();
        x.visit(1, 5);
        x.visit(2, 5);
        x.sick(0);
        x.sick(1);
        x.weeks(1);
        due("2 has the greatest number", x.ofChild(2, 10), 1);
        due("1 was placed last, but that is not asked for visits", x.ofChild(1, 7), 1);
    }

    private static void placedLast() {
        CHECK.sentence("Terms", "then the child that was placed last.");
        NurseryPlaces x = Nurseries.withCarers(3);
        x.child(10, 0, 1);
        x.admit();
        x.child(10, 1, 1);
        x.child(10, 0, 1);
        x.admit();
        x.sick(0);
        x.weeks(1);
        due("1 was placed last, behind its elder's sibling 2", x.ofChild(1, 10), 1);
        due("2 stays", x.ofChild(2, 9), 1);
        x.sick(0);
        x.sick(1);
        x.weeks(1);
        due("1 once more", x.ofChild(1, 10), 2);
        due("then 2", x.ofChild(2, 10), 1);
        due("0 stays", x.ofChild(0, 9), 2);
    }

    private static void moversKeepTheirPlacing() {
        CHECK.sentence("Terms", "this is its room then.");
        NurseryPlaces x = new NurseryPlaces();
        x.room(0, 12, 5, 5);
        x.room(12, 72, 5, 1);
        x.carer(0, 31, 0, 10);
        x.carer(1, 31, 0, 10);
        x.carer(1, 31, 0, 10);
        x.set(2, 1);
        x.set(3, 0);
        x.child(11, 0, 1);
        x.child(20, 1, 1);
        x.admit();
        x.weeks(4);
        x.sick(1);
        x.weeks(1);
        due("both are in room 1", x.ofRoom(1, 5), 3);
        due("1 was placed last: 0 has moved, but was not placed again", x.ofChild(1, 10), 1);
        due("0 stays", x.ofChild(0, 10), 0);
    }

    private static void pricePaid() {
        CHECK.sentence("Terms", "Each settled child that came pays PRICE for the session");
        NurseryPlaces x = Nurseries.withCarers(1);
        x.child(10, 0, 3);
        x.child(10, 1, 4);
        x.admit();
        x.set(3, 1);
        x.child(10, 2, 8);
        x.admit();
        x.visit(2, 8);
        x.weeks(1);
        due("for two sessions", x.ofChild(0, 11), 6000);
        due("for one", x.ofChild(1, 11), 3000);
        due("for a visit nothing", x.ofChild(2, 11), 0);
        due("together", x.count(8), 9000);
        x.sick(0);
        x.weeks(1);
        due("who was sent home pays nothing", x.count(8), 9000);
    }

    /** Child 0 has session 0, child 1 of the same family session 2; carer 0 is there on day 0 alone, carer 1 on the other days. */
    private static NurseryPlaces withSiblings() {
        NurseryPlaces x = new NurseryPlaces();
        x.room(0, 72, 40, 2);
        x.carer(0, 1, 0, 10);
        x.carer(0, 30, 0, 10);
        x.set(2, 1);
        x.set(3, 0);
        x.child(10, 7, 1);
        x.child(10, 7, 4);
        x.admit();
        return x;
    }

    private static void discountForSiblings() {
        CHECK.sentence("Terms", "or PRICE * (100 - DISCOUNT) / 100 if a settled child of the same family has a lower number (whether that one came or not).");
        NurseryPlaces x = withSiblings();
        x.weeks(1);
        due("no settled child has a lower number than 0", x.ofChild(0, 11), 3000);
        due("0 has a lower number than 1", x.ofChild(1, 11), 2400);
        x = withSiblings();
        x.sick(0);
        x.weeks(1);
        due("0 was sent home", x.ofChild(0, 11), 0);
        due("it has a lower number all the same", x.ofChild(1, 11), 2400);
        x = withSiblings();
        x.leave(0);
        x.weeks(1);
        due("a gone one is not settled", x.ofChild(1, 11), 3000);
        x = Nurseries.withCarers(2);
        x.set(3, 1);
        x.child(10, 7, 1);
        x.admit();
        x.set(3, 0);
        x.child(10, 7, 1);
        x.child(10, 6, 2);
        x.admit();
        x.set(3, 1);
        x.weeks(1);
        due("one that is not settled does not count", x.ofChild(1, 11), 3000);
        due("nor one of another family", x.ofChild(2, 11), 3000);
        x = Nurseries.withTwoRooms(1);
        x.child(20, 7, 1);
        x.child(20, 7, 2);
        x.child(20, 6, 1);
        x.leave(0);
        x.admit();
        x.child(20, 6, 2);
        x.child(5, 6, 1);
        x.leave(1);
        x.admit();
        x.weeks(1);
        due("2 has a lower number than 3 and 4", x.ofChild(2, 11), 3000);
        due("3", x.ofChild(3, 11), 2400);
        due("4, in another room", x.ofChild(4, 11), 2400);
        x = Nurseries.withPlaces(1);
        x.set(3, 0);
        x.child(10, 9, 1);
        x.admit();
        x.child(10, 7, 1);
        x.child(10, 7, 2);
        x.admit();
        x.leave(0);
        due("1 is placed behind its sibling 2", x.admit(), 1);
        x.weeks(1);
        due("its number is lower", x.ofChild(1, 11), 3000);
        due("2 pays less, though it was placed first", x.ofChild(2, 11), 2400);
    }

    private static void visitThatTookPlaceCounts() {
        CHECK.sentence("Terms", "A visit that took place counts");
        NurseryPlaces x = Nurseries.withCarers(1);
        x.set(3, 1);
        x.child(10, 0, 1);
        x.admit();
        x.visit(0, 0);
        x.sick(0);
        x.weeks(1);
        due("it was sent home: no visit", x.ofChild(0, 7), 0);
        due("no visit in all", x.count(9), 0);
        due("not settled", x.ofChild(0, 6), 0);
        x.visit(0, 0);
        x.weeks(1);
        due("it took place", x.ofChild(0, 7), 1);
        due("one in all", x.count(9), 1);
        due("settled", x.ofChild(0, 6), 1);
    }

    private static void visitsOrMore() {
        CHECK.sentence("Terms", "each PLACED child with VISITS visits or more (also without a visit in this week) becomes settled.");
        NurseryPlaces x = Nurseries.withCarers(1);
        x.set(3, 2);
        x.child(10, 0, 1);
        x.child(72, 1, 1);
        x.admit();
        x.visit(0, 0);
        x.weeks(1);
        due("1 visit of 2", x.count(7), 0);
        x.visit(0, 0);
        x.weeks(1);
        due("2 visits of 2", x.count(7), 1);
        x = Nurseries.withCarers(1);
        x.set(3, 3);
        x.child(10, 0, 1);
        x.child(72, 1, 1);
        x.admit();
        x.visit(0, 0);
        x.weeks(1);
        x.visit(0, 0);
        x.weeks(1);
        due("2 visits of 3", x.count(7), 0);
        x.set(3, 1);
        due("nothing before the week has passed", x.count(7), 0);
        x.weeks(1);
        due("2 visits are more than 1, and there was none in this week", x.count(7), 1);
        x = Nurseries.withCarers(2);
        x.set(3, 1);
        x.child(10, 0, 1);
        x.child(10, 1, 1);
        x.child(72, 1, 1);
        x.admit();
        x.leave(1);
        x.set(3, 0);
        x.weeks(1);
        due("no visit, and VISITS is 0: neither who waits nor who is gone", x.count(7), 1);
    }

    private static void behindStepOne() {
        CHECK.sentence("Terms", "(These two steps are done behind step 1 for all rooms and sessions.)");
        NurseryPlaces x = Nurseries.withCarers(2);
        x.set(3, 1);
        x.child(10, 7, 1 + 512);
        x.admit();
        x.set(3, 0);
        x.child(10, 7, 512);
        x.admit();
        x.set(3, 1);
        x.visit(0, 0);
        x.weeks(1);
        due("0 becomes settled", x.ofChild(0, 6), 1);
        due("but did not come to session 9 in this week", x.ofChild(0, 9), 0);
        due("nor is 1 a younger sibling of a settled one in it", x.ofChild(1, 11), 3000);
        x.weeks(1);
        due("0 comes in the next one", x.ofChild(0, 9), 2);
        due("and 1 pays less", x.ofChild(1, 11), 3000 + 2400);
    }

    private static void monthOlder() {
        CHECK.sentence("Terms", "The week increases by 1; if it is a multiple of 4 then, all children that are not GONE become a month older.");
        NurseryPlaces x = Nurseries.withPlaces(2);
        x.child(10, 0, 1);
        x.child(10, 1, 1);
        x.admit();
        x.child(10, 2, 1);
        x.leave(1);
        int[] ages = {10, 10, 10, 11, 11, 11, 11, 12, 12};
        for (int week = 1; week <= 9; week++) {
            due("weeks(1)", x.weeks(1), week);
            due("a placed one in week " + week, x.ofChild(0, 0), ages[week - 1]);
            due("a gone one", x.ofChild(1, 0), 10);
            due("a waiting one", x.ofChild(2, 0), ages[week - 1]);
        }
        x.weeks(52);
        due("in week 61", x.ofChild(0, 0), 10 + 15);
    }

    private static void noSickNoVisits() {
        CHECK.sentence("Terms", "No carer is sick any more, no visit is planned.");
        NurseryPlaces x = Nurseries.withCarers(2);
        x.set(3, 9);
        x.child(10, 0, 1);
        x.child(10, 1, 1);
        x.admit();
        x.visit(0, 0);
        x.visit(1, 0);
        x.sick(0);
        x.sick(1);
        x.weeks(1);
        for (int i = 0; i < 2; i++) {
            due("carer " + i, x.ofCarer(i, 4), 0);
            due("child " + i, x.ofChild(i, 8), -6);
        }
        due("visits that are planned", x.count(11), 0);
        due("who is sent home in the next week", x.sentHome(-6), 0);
        x.sick(0);
        x.sick(1);
        x.visit(0, 0);
        x.weeks(2);
        due("in the second week nobody is sent home", x.count(10), 3);
    }

    private static void ageNotInTheBand() {
        CHECK.sentence("Terms", "For each PLACED child, in ascending order, whose age is not in the band of its room any more: it leaves its room");
        NurseryPlaces x = Nurseries.withTwoRooms(5);
        x.child(10, 0, 1);
        x.child(11, 1, 1);
        x.admit();
        x.weeks(3);
        due("both are in room 0", x.ofRoom(0, 5), 3);
        x.weeks(1);
        due("11 months are still in its band", x.ofRoom(0, 5), 1);
        due("12 are not", x.ofRoom(1, 5), 2);
        due("the place in room 0 is not taken any more", x.ofRoom(0, 20), 1);
        x.weeks(4);
        due("12 are not", x.ofRoom(1, 5), 3);
        x = new NurseryPlaces();
        x.room(12, 20, 5, 5);
        x.room(0, 14, 5, 5);
        x.carer(0, 31, 0, 10);
        x.carer(1, 31, 0, 10);
        x.child(11, 0, 3);
        x.admit();
        x.weeks(4);
        due("12 months are in the bands of both rooms: it stays", x.ofChild(0, 4), 1);
        x.weeks(8);
        due("14 are not any more", x.ofChild(0, 4), 0);
    }

    private static void noRoomOfItsAge() {
        CHECK.sentence("Terms", "if there is no room of its age, it is GONE.");
        NurseryPlaces x = new NurseryPlaces();
        x.room(0, 12, 5, 5);
        x.room(13, 14, 5, 5);
        x.carer(0, 31, 0, 10);
        x.carer(1, 31, 0, 10);
        x.set(3, 1);
        x.child(11, 0, 3);
        x.admit();
        x.visit(0, 0);
        x.weeks(3);
        due("placed", x.ofChild(0, 3), 1);
        x.weeks(1);
        int[] gone = {12, 0, 3, 2, -6, 0, 0, 1, -6, 3 * 2, 0, 3 * 6000, 0};
        for (int what = 0; what < gone.length; what++) due("ofChild(0, " + what + ")", x.ofChild(0, what), gone[what]);
        x.weeks(4);
        due("a gone one does not come back", x.ofChild(0, 3), 2);
        due("nor grow", x.ofChild(0, 0), 12);
        x = Nurseries.withPlaces(1);
        x.child(71, 0, 1);
        x.admit();
        x.weeks(4);
        due("72 months are in no band", x.ofChild(0, 3), 2);
    }

    private static void fewerTakenInTheNewRoom() {
        CHECK.sentence("Terms", "Otherwise it keeps those of its present sessions in which fewer places of the new room are taken than there are");
        NurseryPlaces x = Nurseries.withTwoRooms(2);
        x.child(20, 0, 1 + 2);
        x.child(20, 1, 1);
        x.child(11, 2, 1 + 2 + 4);
        x.admit();
        x.weeks(3);
        x.sick(1);
        x.weeks(1);
        due("2 of 2, 1 of 2 and 0 of 2 places were taken", x.ofChild(2, 5), 2 + 4);
        due("in the new room", x.ofChild(2, 4), 1);
        due("settled as before", x.ofChild(2, 6), 1);
    }

    private static void presentSessions() {
        CHECK.sentence("Terms", "those of its present sessions");
        NurseryPlaces x = Nurseries.withTwoRooms(5);
        x.child(11, 0, 1 + 2 + 4);
        x.child(11, 1, 8);
        x.admit();
        x.giveBack(0, 0);
        x.swap(0, 1, 1, 3);
        x.weeks(4);
        due("what it gave back or exchanged is not its own any more", x.ofChild(0, 5), 4 + 8);
        due("its wish is what it was", x.ofChild(0, 2), 7);
        due("the other one", x.ofChild(1, 5), 2);
    }

    private static void leastOrMore() {
        CHECK.sentence("Terms", "if these are LEAST or more: this is its room then. If they are fewer, it is WAITING again");
        for (int least = 1; least <= 3; least++) {
            NurseryPlaces x = Nurseries.withTwoRooms(1);
            x.child(20, 0, 1);
            x.child(11, 1, 1 + 2 + 4);
            x.admit();
            x.set(2, least);
            x.weeks(4);
            due("2 sessions are kept, LEAST is " + least, x.ofChild(1, 3), least <= 2 ? 1 : 0);
            due("its room", x.ofChild(1, 4), least <= 2 ? 1 : -6);
            due("its sessions", x.ofChild(1, 5), least <= 2 ? 6 : 0);
        }
        NurseryPlaces x = Nurseries.withTwoRooms(5);
        x.child(20, 0, 1);
        x.admit();
        x.set(2, 10);
        x.weeks(4);
        due("who does not move keeps fewer than LEAST", x.ofChild(0, 5), 1);
    }

    private static void waitingAgain() {
        CHECK.sentence("Terms", "it is WAITING again, with no visits, and not settled; its wish is what it was.");
        NurseryPlaces x = Nurseries.withTwoRooms(1);
        x.set(3, 1);
        x.child(11, 7, 1 + 2 + 4);
        x.admit();
        x.visit(0, 0);
        x.weeks(1);
        x.giveBack(0, 0);
        x.set(2, 4);
        x.weeks(3);
        int[] again = {12, 7, 7, 0, -6, 0, 0, 0, -6, 3 * 2, 0, 3 * 6000, 4};
        for (int what = 0; what < again.length; what++) due("ofChild(0, " + what + ")", x.ofChild(0, what), again[what]);
        due("visits that took place stay counted", x.count(9), 1);
        x.set(2, 1);
        due("it can be placed again", x.admit(), 1);
        due("with its whole wish", x.ofChild(0, 5), 7);
        due("in the room of its age", x.ofChild(0, 4), 1);
        due("and is not settled", x.ofChild(0, 6), 0);
        due("it needs a visit again", x.visit(0, 0), 1);
        x = Nurseries.withTwoRooms(1);
        x.child(20, 0, 1);
        x.child(11, 1, 1);
        x.admit();
        x.sick(0);
        x.weeks(1);
        due("sent home once", x.ofChild(1, 10), 1);
        x.weeks(3);
        due("it waits again", x.ofChild(1, 3), 0);
        due("and was sent home once", x.ofChild(1, 10), 1);
    }

    private static void inAscendingOrder() {
        CHECK.sentence("Terms", "For each PLACED child, in ascending order");
        NurseryPlaces x = new NurseryPlaces();
        x.room(0, 11, 5, 5);
        x.room(11, 13, 1, 1);
        x.carer(0, 31, 0, 10);
        x.carer(1, 31, 0, 10);
        x.set(2, 1);
        x.child(10, 0, 1);
        x.child(12, 1, 1 + 2);
        x.child(10, 2, 2 + 4);
        x.child(10, 3, 4);
        x.admit();
        x.weeks(4);
        due("0 comes before 1, who has the place", x.ofChild(0, 3), 0);
        due("1 leaves", x.ofChild(1, 3), 2);
        due("2 finds the place of 1 free", x.ofChild(2, 5), 6);
        due("3 comes behind 2", x.ofChild(3, 3), 0);
    }

    private static void moreThanPatience() {
        CHECK.sentence("Terms", "A WAITING child that came, or is WAITING again, more than PATIENCE weeks ago is GONE.");
        NurseryPlaces x = new NurseryPlaces();
        x.set(4, 2);
        x.weeks(1);
        x.child(10, 0, 1);
        x.weeks(1);
        x.child(10, 1, 1);
        x.weeks(1);
        due("2 weeks ago, and 1", x.count(4), 3);
        x.weeks(1);
        due("3 weeks ago, and 2", x.count(4), 2);
        due("gone", x.count(6), 1);
        x.weeks(1);
        due("both are gone", x.count(6), 3);
        due("the week in which it came stays", x.ofChild(0, 12), 1);
        x = Nurseries.withPlaces(1);
        x.set(4, 0);
        x.child(10, 0, 1);
        x.admit();
        x.weeks(52);
        due("who is placed is not gone", x.ofChild(0, 3), 1);
    }

    private static void patienceOfOneThatWaitsAgain() {
        CHECK.sentence("Terms", "or is WAITING again, more than PATIENCE weeks ago");
        for (int patience = 0; patience <= 2; patience++) {
            NurseryPlaces x = Nurseries.withTwoRooms(1);
            x.child(20, 0, 1);
            x.child(11, 1, 1);
            x.admit();
            x.set(4, patience);
            x.weeks(4);
            due("it waits again since this week", x.ofChild(1, 3), 0);
            due("since week", x.ofChild(1, 12), 4);
            if (patience > 0) x.weeks(patience);
            due("since " + patience + " weeks", x.ofChild(1, 3), 0);
            x.weeks(1);
            due("since a week more than PATIENCE", x.ofChild(1, 3), 2);
        }
    }
}
