import java.util.function.Supplier;

/** Admission, visits, and the promises 7 to 10: a test for each sentence that names a boundary. */
public final class AdmissionBoundsTest {
    private static final Check CHECK = new Check("AdmissionBoundsTest");

    public static void main(String[] args) {
        asLongAsThereIsOne();
        lookedAtAnew();
        siblingsFirst();
        lowestNumber();
        roomOfItsAge();
        fewerTakenThanThereAre();
        leastOrMore();
        itGetsAllOfThese();
        settledAtOnce();
        numberedOnceMore();
        admitPlaced();
        oneVisitInAWeek();
        visitInAnOwnSession();
        visitWherePlacesAreLeft();
        visitPlans();
        visitSession();
        visitPlanned();
        visitNoSuch();
        visitNotPossible();
        swapExchanges();
        swapAnswer();
        swapSession();
        swapOtherSession();
        swapNoSuch();
        swapNotPossible();
        swapUnlikeRooms();
        swapInOneRoom();
        giveBackVisitStays();
        giveBackSessions();
        giveBackNoSuch();
        giveBackNotPossible();
        CHECK.finish();
    }

    private static void due(String call, int got, int want) {
        CHECK.due(call, got, want);
    }

    private static void refused(String call, int code, Supplier<NurseryPlaces> maker, Unchanged.Call refused) {
        Unchanged.due(CHECK, call, maker, refused, code);
    }

    private static void asLongAsThereIsOne() {
        CHECK.sentence("Terms", "To admit means: as long as there is a WAITING child that can be placed, the first such child is placed");
        due("nobody waits", Nurseries.withPlaces(1).admit(), 0);
        for (int places = 23; places <= 25; places++) {
            NurseryPlaces x = Nurseries.withPlaces(places);
            for (int i = 0; i < 24; i++) x.child(10, i % 16, 1);
            due("24 children wait for " + places + " places", x.admit(), Math.min(places, 24));
            due("0 and its sibling 16 come first, 15 is the last one", x.count(4), places == 23 ? 1 << 15 : 0);
        }
        NurseryPlaces x = Nurseries.withPlaces(1);
        x.child(72, 0, 1);
        x.child(10, 1, 1);
        due("the first that can be placed need not be the first", x.admit(), 1);
        due("child 1", x.count(5), 2);
        x.leave(1);
        due("gone ones are not placed", x.admit(), 0);
    }

    private static void lookedAtAnew() {
        CHECK.sentence("Terms", "(all are looked at anew behind each placing)");
        NurseryPlaces x = Nurseries.withPlaces(2);
        x.child(10, 5, 1);
        x.child(10, 6, 1);
        x.child(10, 5, 1);
        due("child 0, and then its sibling", x.admit(), 2);
        due("children 0 and 2", x.count(5), 1 + 4);
        x = Nurseries.withPlaces(2);
        x.child(10, 6, 2);
        x.child(10, 6, 1);
        x.child(10, 5, 1);
        x.child(10, 5, 1);
        x.leave(0);
        due("child 1, and then 2, for the sibling of 1 is gone", x.admit(), 2);
        due("children 1 and 2", x.count(5), 2 + 4);
    }

    private static void siblingsFirst() {
        CHECK.sentence("Terms", "children with a PLACED child of the same family first, then those with the lowest number.");
        NurseryPlaces x = Nurseries.withPlaces(2);
        x.child(10, 1, 1);
        x.admit();
        x.child(10, 2, 1);
        x.child(10, 2, 1);
        x.child(10, 1, 1);
        due("one place", x.admit(), 1);
        due("for the sibling", x.count(5), 1 + 8);
        x = Nurseries.withPlaces(2);
        x.child(10, 1, 2);
        x.admit();
        x.leave(0);
        x.child(10, 2, 1);
        x.child(10, 1, 1);
        x.child(72, 3, 1);
        x.child(10, 3, 1);
        due("two places", x.admit(), 2);
        due("a gone sibling and a waiting one do not help", x.count(5), 2 + 4);
    }

    private static void lowestNumber() {
        CHECK.sentence("Terms", "then those with the lowest number.");
        NurseryPlaces x = Nurseries.withPlaces(3);
        x.child(10, 1, 1);
        x.admit();
        x.child(10, 2, 1);
        x.child(10, 1, 1);
        x.child(10, 1, 1);
        x.child(10, 1, 1);
        due("two places", x.admit(), 2);
        due("for the siblings with the lowest numbers", x.count(5), 1 + 4 + 8);
        x.leave(0);
        x.leave(2);
        x.leave(3);
        x.child(10, 9, 1);
        x.child(10, 8, 1);
        due("three places", x.admit(), 3);
        due("1 is first, then 4, then 5", x.count(5), 2 + 16 + 32);
    }

    private static void roomOfItsAge() {
        CHECK.sentence("Terms", "A child can be placed if there is a room of its age");
        int[] ages = {9, 10, 19, 20};
        for (int age : ages) {
            NurseryPlaces x = new NurseryPlaces();
            x.room(10, 20, 1, 1);
            x.carer(0, 31, 0, 10);
            x.child(age, 0, 3);
            int placed = age == 10 || age == 19 ? 1 : 0;
            due("admit() with " + age + " months", x.admit(), placed);
            due("its room", x.ofChild(0, 4), placed == 1 ? 0 : -6);
        }
        NurseryPlaces x = new NurseryPlaces();
        x.child(10, 0, 3);
        due("admit() without rooms", x.admit(), 0);
    }

    private static void fewerTakenThanThereAre() {
        CHECK.sentence("Terms", "the sessions of its wish in which fewer places of this room are taken than there are");
        NurseryPlaces x = Nurseries.withPlaces(2);
        x.child(10, 0, 1);
        x.child(10, 1, 1);
        x.child(10, 2, 1);
        x.admit();
        due("0 of 2 taken", x.ofChild(0, 5), 1);
        due("1 of 2 taken", x.ofChild(1, 5), 1);
        due("2 of 2 taken", x.ofChild(2, 3), 0);
        x = Nurseries.withTwoRooms(1);
        x.child(10, 0, 1);
        x.child(20, 0, 1);
        due("places of another room are not counted", x.admit(), 2);
        x = Nurseries.withPlaces(1);
        x.set(3, 3);
        x.child(10, 0, 2);
        x.admit();
        x.visit(0, 0);
        x.child(10, 0, 1);
        due("a visit takes none", x.admit(), 1);
        x = Nurseries.withCarers(1);
        x.sick(0);
        x.child(10, 0, 1);
        due("the place with a sick carer is one", x.admit(), 1);
    }

    private static void leastOrMore() {
        CHECK.sentence("Terms", "the sessions of its wish in which fewer places of this room are taken than there are, are LEAST or more; it gets all of these.");
        for (int least = 2; least <= 4; least++) {
            NurseryPlaces x = Nurseries.withPlaces(1);
            x.child(10, 0, 1);
            x.admit();
            x.set(2, least);
            x.child(10, 1, 1 + 2 + 4 + 512);
            due("3 of 4 sessions are free, LEAST is " + least, x.admit(), least <= 3 ? 1 : 0);
            due("it gets", x.ofChild(1, 5), least <= 3 ? 2 + 4 + 512 : 0);
        }
    }

    private static void itGetsAllOfThese() {
        CHECK.sentence("Terms", "it gets all of these.");
        NurseryPlaces x = Nurseries.withPlaces(1);
        x.child(10, 0, 1023);
        x.child(10, 1, 1);
        x.admit();
        due("all ten, though LEAST is 1", x.ofChild(0, 5), 1023);
        due("no place is left", x.ofChild(1, 3), 0);
        x.leave(0);
        x.child(10, 0, 1 + 512);
        x.admit();
        due("not more than it wishes", x.ofChild(1, 5), 1);
        due("not what is taken", x.ofChild(2, 5), 512);
        due("its wish stays", x.ofChild(2, 2), 513);
    }

    private static void settledAtOnce() {
        CHECK.sentence("Terms", "(If VISITS is 0, it is settled at once.)");
        for (int visits = 0; visits <= 1; visits++) {
            NurseryPlaces x = Nurseries.withPlaces(1);
            x.set(3, visits);
            x.child(10, 0, 1);
            due("a waiting one is not settled", x.count(7), 0);
            x.admit();
            due("settled with VISITS " + visits, x.ofChild(0, 6), 1 - visits);
            due("settled ones", x.count(7), 1 - visits);
            x.weeks(1);
            due("came in the first week", x.ofChild(0, 9), 1 - visits);
        }
    }

    private static void numberedOnceMore() {
        CHECK.sentence("Terms", "Children are numbered once more in the order in which they are placed, for \"placed last\".");
        NurseryPlaces x = Nurseries.withCarers(2);
        x.child(10, 0, 1);
        x.admit();
        x.child(10, 1, 1);
        x.child(10, 0, 2);
        x.child(10, 1, 2);
        x.admit();
        due("all are placed: 2, for it is a sibling, then 1, then 3", x.count(5), 15);
        x.sick(0);
        x.weeks(1);
        due("1 was placed behind 0", x.ofChild(1, 10), 1);
        due("3 was placed behind 2", x.ofChild(3, 10), 1);
        due("0 and 2 stay", x.count(10), 2);
        x = Nurseries.withCarers(2);
        x.child(72, 9, 1);
        x.child(10, 1, 1);
        x.child(10, 0, 4);
        x.child(10, 0, 1);
        x.leave(0);
        x.admit();
        x.leave(1);
        x.child(10, 2, 1);
        x.admit();
        x.sick(1);
        x.weeks(1);
        due("a later admission goes on counting: 4 was placed behind 3", x.ofChild(4, 10), 1);
        due("3 stays", x.ofChild(3, 10), 0);
    }

    private static void admitPlaced() {
        CHECK.sentence("Promise 7", "Returns how many children were placed by this.");
        NurseryPlaces x = Nurseries.withPlaces(3);
        x.child(10, 0, 1);
        x.child(10, 1, 1);
        due("two", x.admit(), 2);
        due("none more", x.admit(), 0);
        x.child(10, 2, 1);
        x.child(10, 3, 1);
        due("one, and the fourth finds no place", x.admit(), 1);
        due("placed", x.count(5), 7);
    }

    private static void oneVisitInAWeek() {
        CHECK.sentence("Terms", "A PLACED child that is not settled can make one visit in a week, in a session of its room");
        NurseryPlaces x = Nurseries.withPlaces(5);
        x.child(10, 0, 3);
        x.admit();
        due("the first in the week", x.visit(0, 0), 1);
        due("a second one in another session", x.visit(0, 1), -5);
        due("a second one in the same session", x.visit(0, 0), -5);
        due("the first stays planned", x.ofChild(0, 8), 0);
        x.weeks(1);
        due("in the next week", x.visit(0, 1), 1);
        due("it is planned", x.ofChild(0, 8), 1);
    }

    private static void visitInAnOwnSession() {
        CHECK.sentence("Terms", "in one of its own sessions, or in one in which fewer places are taken");
        NurseryPlaces x = Nurseries.withPlaces(2);
        x.child(10, 0, 1);
        x.child(10, 1, 1);
        x.child(10, 2, 2);
        x.child(10, 3, 2);
        x.admit();
        due("its own one is full", x.visit(0, 0), 1);
        due("so is another one", x.visit(1, 1), -5);
        x = Nurseries.withPlaces(2);
        x.child(10, 0, 1);
        x.child(10, 1, 2);
        x.child(10, 2, 2);
        x.child(10, 3, 4);
        x.admit();
        x.visit(1, 0);
        due("its own one is full with the visit of 1", x.visit(0, 0), 2);
        due("and takes no place more", x.visit(3, 0), -5);
    }

    private static void visitWherePlacesAreLeft() {
        CHECK.sentence("Terms", "fewer places are taken, by PLACED children and by visits that are planned in this week in sessions that are not own ones of the child whose visit it is, than there are.");
        for (int places = 3; places <= 5; places++) {
            NurseryPlaces x = Nurseries.withTwoRooms(places);
            x.set(3, 3);
            for (int i = 0; i < 2; i++) x.child(20, i, 1);
            for (int i = 2; i < 6; i++) x.child(20, i, 2);
            x.child(5, 9, 2);
            x.admit();
            x.visit(6, 0);
            x.visit(0, 0);
            due("2 are taken of " + places + ", a visit in an own session and one in another room take none", x.visit(2, 0), 3);
            due("3 are taken of " + places, x.visit(3, 0), places > 3 ? 4 : -5);
            due("4 are taken of " + places, x.visit(4, 0), places > 4 ? 5 : -5);
            x.weeks(1);
            due("last week's visits take none", x.visit(3, 0), 1);
        }
        NurseryPlaces x = Nurseries.withCarers(1);
        x.child(10, 0, 1);
        x.admit();
        x.set(3, 1);
        x.child(10, 1, 2);
        x.admit();
        due("a settled child takes a place", x.visit(1, 0), -5);
        x.sick(0);
        due("the place with a sick carer is one", x.visit(1, 2), 1);
        for (int first = 0; first < 2; first++) {
            x = Nurseries.withPlaces(1);
            x.child(10, 0, 1);
            x.child(10, 1, 2);
            x.admit();
            due("whoever is first", x.visit(first, 9), 1);
            due("takes the one place", x.visit(1 - first, 9), -5);
        }
        x = Nurseries.withPlaces(2);
        x.child(10, 0, 1);
        x.child(10, 1, 1);
        x.admit();
        x.visit(0, 9);
        x.child(10, 2, 512);
        x.child(10, 3, 512);
        due("admission does not ask for visits", x.admit(), 2);
        due("3 are taken of 2 now", x.visit(1, 9), -5);
        for (int session = 0; session < 10; session++) {
            x = new NurseryPlaces();
            x.room(0, 72, 1, 1);
            x.carer(0, 1, 0, 5);
            x.carer(0, 16, 5, 10);
            x.set(2, 1);
            x.child(10, 0, 1);
            x.admit();
            boolean hasPlaces = session == 0 || session == 9;
            due("there are places in the sessions 0 and 9 alone: visit(0, " + session + ")", x.visit(0, session), hasPlaces ? 1 : -5);
        }
    }

    private static void visitPlans() {
        CHECK.sentence("Promise 8", "Plans a visit in the present week.");
        NurseryPlaces x = Nurseries.withPlaces(1);
        x.child(10, 0, 1);
        x.admit();
        due("none yet", x.ofChild(0, 8), -6);
        x.visit(0, 9);
        due("planned", x.ofChild(0, 8), 9);
        due("it has not taken place", x.ofChild(0, 7), 0);
        x.weeks(1);
        due("it has", x.ofChild(0, 7), 1);
        due("not in the next week", x.ofChild(0, 8), -6);
        x.weeks(1);
        due("so there is none more", x.ofChild(0, 7), 1);
    }

    private static void visitSession() {
        CHECK.sentence("Promise 8", "- `session`: 0 to 9");
        int[] sessions = {-1, 0, 9, 10};
        int[] answers = {-1, 1, 1, -1};
        for (int i = 0; i < 4; i++) {
            NurseryPlaces x = Nurseries.withPlaces(1);
            x.child(10, 0, 16);
            x.admit();
            due("visit(0, " + sessions[i] + ")", x.visit(0, sessions[i]), answers[i]);
            due("planned", x.ofChild(0, 8), answers[i] == 1 ? sessions[i] : -6);
        }
    }

    private static void visitPlanned() {
        CHECK.sentence("Promise 8", "Returns how many visits are planned then");
        NurseryPlaces x = Nurseries.withTwoRooms(24);
        x.set(3, 1);
        for (int i = 0; i < 4; i++) x.child(i < 2 ? 5 : 20, i, 1);
        x.admit();
        for (int i = 0; i < 4; i++) {
            due("visit(" + i + ", 0), in both rooms", x.visit(i, 0), i + 1);
            due("planned", x.count(11), i + 1);
        }
        x.leave(1);
        due("planned", x.count(11), 3);
        x.weeks(1);
        due("planned", x.count(11), 0);
    }

    private static void visitNoSuch() {
        CHECK.sentence("Promise 8", "NO_SUCH if there is no such child or session");
        for (int child : new int[] {-1, 5, Integer.MIN_VALUE, Integer.MAX_VALUE}) {
            refused("visit(" + child + ", 0)", -1, Nurseries::busy, x -> x.visit(child, 0));
        }
        for (int session : new int[] {-1, 10, 32, Integer.MIN_VALUE, Integer.MAX_VALUE}) {
            refused("visit(2, " + session + ")", -1, Nurseries::busy, x -> x.visit(2, session));
        }
        refused("visit(24, 0)", -1, () -> Nurseries.withChildren(24), x -> x.visit(24, 0));
        due("the last child", Nurseries.withChildren(24).visit(23, 0), 1);
    }

    private static NurseryPlaces withTakenPlace() {
        NurseryPlaces x = Nurseries.withPlaces(1);
        x.child(10, 0, 1);
        x.child(10, 1, 2);
        x.admit();
        return x;
    }

    private static void visitNotPossible() {
        CHECK.sentence("Promise 8", "NOT_POSSIBLE if the child is not PLACED, is settled, makes a visit in this week already, or there is no place.");
        refused("a waiting child", -5, Nurseries::busy, x -> x.visit(3, 5));
        refused("a gone child", -5, Nurseries::busy, x -> x.visit(4, 5));
        refused("a settled child", -5, Nurseries::busy, x -> x.visit(1, 3));
        refused("it makes a visit already, in session 9", -5, Nurseries::busy, x -> x.visit(2, 0));
        refused("the same visit", -5, Nurseries::busy, x -> x.visit(2, 9));
        refused("no place", -5, AdmissionBoundsTest::withTakenPlace, x -> x.visit(0, 1));
        due("a place", withTakenPlace().visit(0, 2), 1);
        due("an own place", withTakenPlace().visit(0, 0), 1);
    }

    private static void swapExchanges() {
        CHECK.sentence("Promise 9", "Two children exchange a session each: the first one gets the other one's session in place of its own, and the other way round.");
        NurseryPlaces x = Nurseries.withPlaces(2);
        x.child(10, 0, 1 + 2);
        x.child(10, 1, 2 + 512);
        x.admit();
        due("swap(0, 0, 1, 9)", x.swap(0, 0, 1, 9), 1);
        due("child 0 has", x.ofChild(0, 5), 2 + 512);
        due("child 1 has", x.ofChild(1, 5), 1 + 2);
        due("wishes stay", x.ofChild(0, 2) + 1024 * x.ofChild(1, 2), 3 + 1024 * 514);
        due("and the other way round", x.swap(1, 0, 0, 9), 1);
        due("child 0 has", x.ofChild(0, 5), 3);
        due("child 1 has", x.ofChild(1, 5), 2 + 512);
    }

    private static void swapAnswer() {
        CHECK.sentence("Promise 9", "Returns 1");
        due("in one room", forSwaps().swap(0, 0, 1, 2), 1);
        due("in unlike rooms", Nurseries.busy().swap(0, 2, 1, 5), 1);
    }

    private static NurseryPlaces forSwaps() {
        NurseryPlaces x = Nurseries.withPlaces(2);
        x.child(10, 0, 1 + 2);
        x.child(10, 1, 2 + 4);
        x.child(10, 2, 1 + 16);
        x.admit();
        return x;
    }

    private static void swapSession() {
        CHECK.sentence("Promise 9", "- `session`: a session that the child has, and the other one has not");
        refused("the child has not session 3", -5, AdmissionBoundsTest::forSwaps, x -> x.swap(0, 3, 1, 2));
        refused("the other one has session 1, too", -5, AdmissionBoundsTest::forSwaps, x -> x.swap(0, 1, 1, 2));
        refused("only the other one has session 2", -5, AdmissionBoundsTest::forSwaps, x -> x.swap(0, 2, 1, 2));
        due("the child has session 0, and the other one has not", forSwaps().swap(0, 0, 1, 2), 1);
    }

    private static void swapOtherSession() {
        CHECK.sentence("Promise 9", "- `otherSession`: a session that the other child has, and the child has not");
        refused("the other one has not session 3", -5, AdmissionBoundsTest::forSwaps, x -> x.swap(0, 0, 1, 3));
        refused("the child has session 1, too", -5, AdmissionBoundsTest::forSwaps, x -> x.swap(0, 0, 1, 1));
        refused("only the child has session 0", -5, AdmissionBoundsTest::forSwaps, x -> x.swap(0, 0, 1, 0));
        due("the other one has session 2, and the child has not", forSwaps().swap(0, 0, 1, 2), 1);
    }

    private static void swapNoSuch() {
        CHECK.sentence("Promise 9", "NO_SUCH if there is no such child or session, or both children are the same");
        for (int child : new int[] {-1, 5, Integer.MIN_VALUE, Integer.MAX_VALUE}) {
            refused("swap(" + child + ", 0, 1, 3)", -1, Nurseries::busy, x -> x.swap(child, 0, 1, 3));
            refused("swap(0, 0, " + child + ", 3)", -1, Nurseries::busy, x -> x.swap(0, 0, child, 3));
            refused("both of them", -1, Nurseries::busy, x -> x.swap(child, 0, child, 3));
        }
        for (int session : new int[] {-1, 10, 32, Integer.MIN_VALUE, Integer.MAX_VALUE}) {
            refused("swap(0, " + session + ", 1, 3)", -1, Nurseries::busy, x -> x.swap(0, session, 1, 3));
            refused("swap(0, 0, 1, " + session + ")", -1, Nurseries::busy, x -> x.swap(0, 0, 1, session));
        }
        refused("swap(0, 0, 0, 1)", -1, Nurseries::busy, x -> x.swap(0, 0, 0, 1));
        refused("swap(0, 0, 0, 3)", -1, Nurseries::busy, x -> x.swap(0, 0, 0, 3));
        NurseryPlaces x = new NurseryPlaces();
        x.room(0, 72, 1, 1);
        x.carer(0, 31, 0, 10);
        x.set(2, 1);
        for (int i = 0; i < 22; i++) x.child(72, 0, 1);
        x.child(10, 0, 1);
        x.child(10, 0, 512);
        x.admit();
        due("the last child, and the last session", x.swap(23, 9, 22, 0), 1);
        due("the other way round", x.swap(22, 9, 23, 0), 1);
    }

    private static void swapNotPossible() {
        CHECK.sentence("Promise 9", "NOT_POSSIBLE if one is not PLACED, the sessions are not as told above");
        refused("the child waits", -5, Nurseries::busy, x -> x.swap(3, 3, 0, 0));
        refused("the other one waits", -5, Nurseries::busy, x -> x.swap(0, 0, 3, 3));
        refused("the child is gone", -5, Nurseries::busy, x -> x.swap(4, 6, 0, 0));
        refused("the other one is gone", -5, Nurseries::busy, x -> x.swap(0, 0, 4, 6));
        refused("the same session", -5, Nurseries::busy, x -> x.swap(0, 2, 1, 2));
        refused("the child has not session 6", -5, Nurseries::busy, x -> x.swap(0, 6, 1, 3));
        due("both are placed", Nurseries.busy().swap(0, 2, 1, 3), 1);
    }

    /** Child 0 is in a room, child 1 in another one; in each of both rooms so many places are free in the session that is got. */
    private static NurseryPlaces inUnlikeRooms(int freeInFirst, int freeInSecond) {
        NurseryPlaces x = new NurseryPlaces();
        x.room(0, 12, 1 + freeInFirst, 12);
        x.room(12, 72, 1 + freeInSecond, 12);
        x.carer(0, 31, 0, 10);
        x.carer(1, 31, 0, 10);
        x.set(2, 1);
        x.child(5, 0, 1);
        x.child(20, 1, 2);
        x.child(5, 2, 2);
        x.child(20, 3, 1);
        x.admit();
        return x;
    }

    private static void swapUnlikeRooms() {
        CHECK.sentence("Promise 9", "or, if they are in unlike rooms, in one of both rooms no place is free in the session that is got.");
        refused("none in both", -5, () -> inUnlikeRooms(0, 0), x -> x.swap(0, 0, 1, 1));
        refused("none in the second", -5, () -> inUnlikeRooms(1, 0), x -> x.swap(0, 0, 1, 1));
        refused("none in the first", -5, () -> inUnlikeRooms(0, 1), x -> x.swap(0, 0, 1, 1));
        NurseryPlaces x = inUnlikeRooms(1, 1);
        due("one in both", x.swap(0, 0, 1, 1), 1);
        due("the first one's sessions", x.ofChild(0, 5), 2);
        due("its room", x.ofChild(0, 4), 0);
        due("the other one's sessions", x.ofChild(1, 5), 1);
        due("its room", x.ofChild(1, 4), 1);
        due("now none is free in the first room", x.free(0, 1), 0);
        due("nor in the second", x.free(1, 0), 0);
        x = inUnlikeRooms(1, 1);
        x.visit(2, 1);
        x.sick(0);
        x.sick(1);
        due("sick carers count", x.swap(0, 0, 1, 1), 1);
        for (int free = 0; free < 4; free++) {
            int inFirst = free % 2;
            int inSecond = free / 2;
            due("the child of the second room asks, free: " + inFirst + ", " + inSecond, inUnlikeRooms(inFirst, inSecond).swap(1, 1, 0, 0), free == 3 ? 1 : -5);
            due("the rooms 3 and 2, free: " + inFirst + ", " + inSecond, inLastRooms(inFirst, inSecond).swap(0, 0, 1, 1), free == 3 ? 1 : -5);
        }
    }

    /** As inUnlikeRooms(), but with the rooms 3 and 2, before which there are two for no child. */
    private static NurseryPlaces inLastRooms(int freeInFirst, int freeInSecond) {
        NurseryPlaces x = new NurseryPlaces();
        x.room(70, 71, 1, 12);
        x.room(71, 72, 1, 12);
        x.room(12, 70, 1 + freeInSecond, 12);
        x.room(0, 12, 1 + freeInFirst, 12);
        x.carer(2, 31, 0, 10);
        x.carer(3, 31, 0, 10);
        x.set(2, 1);
        x.child(5, 0, 1);
        x.child(20, 1, 2);
        x.child(5, 2, 2);
        x.child(20, 3, 1);
        x.admit();
        return x;
    }

    private static void swapInOneRoom() {
        CHECK.sentence("Promise 9", "if they are in unlike rooms");
        NurseryPlaces x = Nurseries.withPlaces(1);
        x.child(10, 0, 1);
        x.child(10, 1, 2);
        x.admit();
        due("no place is free", x.free(0, 0) + x.free(0, 1), 0);
        due("but both are in one room", x.swap(0, 0, 1, 1), 1);
    }

    private static void giveBackVisitStays() {
        CHECK.sentence("Promise 10", "A PLACED child gives a session back (a visit that is planned in it stays).");
        NurseryPlaces x = Nurseries.withPlaces(1);
        x.child(10, 0, 3);
        x.admit();
        x.visit(0, 0);
        x.giveBack(0, 0);
        due("the session is given back", x.ofChild(0, 5), 2);
        due("its place is free", x.free(0, 0), 1);
        due("the visit is planned", x.ofChild(0, 8), 0);
        due("visits that are planned", x.count(11), 1);
        due("its wish stays", x.ofChild(0, 2), 3);
        x.weeks(1);
        due("it took place", x.ofChild(0, 7), 1);
    }

    private static void giveBackSessions() {
        CHECK.sentence("Promise 10", "Returns how many sessions it has then");
        NurseryPlaces x = Nurseries.withPlaces(1);
        x.child(10, 0, 1023);
        x.admit();
        for (int session = 9; session > 0; session--) due("giveBack(0, " + session + ")", x.giveBack(0, session), session);
        due("one is left", x.ofChild(0, 5), 1);
    }

    private static void giveBackNoSuch() {
        CHECK.sentence("Promise 10", "NO_SUCH if there is no such child or session");
        for (int child : new int[] {-1, 5, Integer.MIN_VALUE, Integer.MAX_VALUE}) {
            refused("giveBack(" + child + ", 0)", -1, Nurseries::busy, x -> x.giveBack(child, 0));
        }
        for (int session : new int[] {-1, 10, 32, Integer.MIN_VALUE, Integer.MAX_VALUE}) {
            refused("giveBack(0, " + session + ")", -1, Nurseries::busy, x -> x.giveBack(0, session));
        }
        NurseryPlaces x = Nurseries.withPlaces(1);
        for (int i = 0; i < 23; i++) x.child(72, 0, 1);
        x.child(10, 0, 1 + 2 + 512);
        x.admit();
        due("the last child, and the last session", x.giveBack(23, 9), 2);
        due("the first session", x.giveBack(23, 0), 1);
    }

    private static void giveBackNotPossible() {
        CHECK.sentence("Promise 10", "NOT_POSSIBLE if it is not PLACED, has not this session, or would have fewer than LEAST.");
        refused("a waiting child", -5, Nurseries::busy, x -> x.giveBack(3, 0));
        refused("a gone child", -5, Nurseries::busy, x -> x.giveBack(4, 6));
        refused("it has not session 3", -5, Nurseries::busy, x -> x.giveBack(0, 3));
        refused("it has 2, and LEAST is 2", -5, Nurseries::busy, x -> x.giveBack(2, 0));
        due("it has 3, and LEAST is 2", Nurseries.busy().giveBack(0, 0), 2);
        NurseryPlaces x = Nurseries.busy();
        x.set(2, 4);
        due("it has 3, and LEAST is 4 now", x.giveBack(0, 0), -5);
        x.set(2, 1);
        x.giveBack(2, 0);
        due("it has 1, and LEAST is 1", x.giveBack(2, 1), -5);
    }
}
