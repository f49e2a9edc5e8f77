import java.util.function.Supplier;

/** Promises 1 to 6: a test for each sentence that names a boundary. */
public final class SettingUpBoundsTest {
    private static final Check CHECK = new Check("SettingUpBoundsTest");

    public static void main(String[] args) {
        newObject();
        setChangesNoChild();
        setPrevious();
        setBadValue();
        roomFrom();
        roomTo();
        roomCapacity();
        roomRatio();
        roomNumber();
        roomBadValue();
        roomTooMany();
        carerDays();
        carerFrom();
        carerTo();
        carerNumber();
        carerNoRoom();
        carerBadValue();
        carerTooMany();
        childComes();
        childAge();
        childFamily();
        childWish();
        childNumber();
        childBadValue();
        childTooMany();
        leaveIsGone();
        leavePlaced();
        leaveNoChild();
        leaveNotPossible();
        CHECK.finish();
    }

    private static void due(String call, int got, int want) {
        CHECK.due(call, got, want);
    }

    private static void refused(String call, int code, Supplier<NurseryPlaces> maker, Unchanged.Call refused) {
        Unchanged.due(CHECK, call, maker, refused, code);
    }

    private static void newObject() {
        CHECK.sentence("Promise 1", "Creates a nursery without rooms, carers and children.");
        NurseryPlaces x = new NurseryPlaces();
        for (int what = 0; what <= 13; what++) due("count(" + what + ")", x.count(what), 0);
        due("no room", x.ofRoom(0, 0), -1);
        due("no carer", x.ofCarer(0, 0), -1);
        due("no child", x.ofChild(0, 0), -1);
        due("nobody to admit", x.wouldAdmit(), 0);
        due("nobody to send home", x.sentHome(-6), 0);
        due("nothing to undo", x.undo(), -5);
        due("slot 0 is empty", x.restore(0), -5);
        due("slot 1 is empty", x.restore(1), -5);
    }

    private static void setChangesNoChild() {
        CHECK.sentence("Promise 2", "Changes a setting; children stay as they are.");
        int[][] settings = {{0, 0}, {1, 100}, {2, 10}, {3, 0}, {3, 9}, {4, 0}};
        for (int[] setting : settings) {
            NurseryPlaces x = Nurseries.busy();
            NurseryPlaces y = Nurseries.busy();
            x.set(setting[0], setting[1]);
            for (int child = 0; child < 5; child++) {
                for (int what = 0; what < 13; what++) {
                    due("ofChild(" + child + ", " + what + ") behind set(" + setting[0] + ", " + setting[1] + ")",
                        x.ofChild(child, what), y.ofChild(child, what));
                }
            }
            due("settled ones", x.count(7), 3);
        }
    }

    private static void setPrevious() {
        CHECK.sentence("Promise 2", "Returns the previous value");
        NurseryPlaces x = new NurseryPlaces();
        due("set(0, 5)", x.set(0, 5), 3000);
        due("the same once more", x.set(0, 5), 5);
        due("set(0, 0)", x.set(0, 0), 5);
        due("set(0, 7)", x.set(0, 7), 0);
        due("another one", x.set(4, 7), 12);
    }

    private static void setBadValue() {
        CHECK.sentence("Promise 2", "BAD_VALUE if there is no such setting, or the value is out of its range.");
        for (int setting : new int[] {-1, 5, Integer.MIN_VALUE, Integer.MAX_VALUE}) {
            refused("set(" + setting + ", 1)", -2, Nurseries::busy, x -> x.set(setting, 1));
        }
        for (int value : new int[] {-1, 10001, Integer.MIN_VALUE, Integer.MAX_VALUE}) {
            refused("set(0, " + value + ")", -2, Nurseries::busy, x -> x.set(0, value));
        }
        NurseryPlaces x = new NurseryPlaces();
        due("the first setting", x.set(0, 1), 3000);
        due("the last setting", x.set(4, 1), 12);
    }

    private static void roomFrom() {
        CHECK.sentence("Promise 3", "- `from`: 0 to 71");
        refused("room(-1, 5, 1, 1)", -2, Nurseries::busy, x -> x.room(-1, 5, 1, 1));
        refused("room(72, 73, 1, 1)", -2, Nurseries::busy, x -> x.room(72, 73, 1, 1));
        refused("room(72, 72, 1, 1)", -2, Nurseries::busy, x -> x.room(72, 72, 1, 1));
        NurseryPlaces x = new NurseryPlaces();
        due("room(0, 5, 1, 1)", x.room(0, 5, 1, 1), 0);
        due("from 0", x.ofRoom(0, 0), 0);
        due("room(71, 72, 1, 1)", x.room(71, 72, 1, 1), 1);
        due("from 71", x.ofRoom(1, 0), 71);
    }

    private static void roomTo() {
        CHECK.sentence("Promise 3", "- `to`: from + 1 to 72");
        refused("room(5, 5, 1, 1)", -2, Nurseries::busy, x -> x.room(5, 5, 1, 1));
        refused("room(5, 4, 1, 1)", -2, Nurseries::busy, x -> x.room(5, 4, 1, 1));
        refused("room(5, 73, 1, 1)", -2, Nurseries::busy, x -> x.room(5, 73, 1, 1));
        NurseryPlaces x = new NurseryPlaces();
        due("room(5, 6, 1, 1)", x.room(5, 6, 1, 1), 0);
        due("to 6", x.ofRoom(0, 1), 6);
        due("room(5, 72, 1, 1)", x.room(5, 72, 1, 1), 1);
        due("to 72", x.ofRoom(1, 1), 72);
    }

    private static void roomCapacity() {
        CHECK.sentence("Promise 3", "- `capacity`: 1 to 40");
        refused("room(5, 6, 0, 1)", -2, Nurseries::busy, x -> x.room(5, 6, 0, 1));
        refused("room(5, 6, 41, 1)", -2, Nurseries::busy, x -> x.room(5, 6, 41, 1));
        NurseryPlaces x = new NurseryPlaces();
        due("room(5, 6, 1, 1)", x.room(5, 6, 1, 1), 0);
        due("capacity 1", x.ofRoom(0, 2), 1);
        due("room(5, 6, 40, 1)", x.room(5, 6, 40, 1), 1);
        due("capacity 40", x.ofRoom(1, 2), 40);
    }

    private static void roomRatio() {
        CHECK.sentence("Promise 3", "- `ratio`: 1 to 12");
        refused("room(5, 6, 1, 0)", -2, Nurseries::busy, x -> x.room(5, 6, 1, 0));
        refused("room(5, 6, 1, 13)", -2, Nurseries::busy, x -> x.room(5, 6, 1, 13));
        NurseryPlaces x = new NurseryPlaces();
        due("room(5, 6, 1, 1)", x.room(5, 6, 1, 1), 0);
        due("ratio 1", x.ofRoom(0, 3), 1);
        due("room(5, 6, 1, 12)", x.room(5, 6, 1, 12), 1);
        due("ratio 12", x.ofRoom(1, 3), 12);
    }

    private static void roomNumber() {
        CHECK.sentence("Promise 3", "Returns its number");
        NurseryPlaces x = new NurseryPlaces();
        for (int i = 0; i < 5; i++) {
            due("room " + i, x.room(i, i + 1, i + 1, i + 1), i);
            due("rooms", x.count(1), i + 1);
        }
        x.room(0, 0, 0, 0);
        for (int i = 0; i < 5; i++) due("the band of room " + i, x.ofRoom(i, 0), i);
    }

    private static void roomBadValue() {
        CHECK.sentence("Promise 3", "BAD_VALUE if an argument is out of range");
        int[][] bad = {{Integer.MIN_VALUE, 5, 1, 1}, {Integer.MAX_VALUE, Integer.MIN_VALUE, 1, 1}, {Integer.MAX_VALUE, 5, 1, 1},
            {0, Integer.MAX_VALUE, 1, 1}, {0, Integer.MIN_VALUE, 1, 1}, {0, 5, Integer.MIN_VALUE, 1}, {0, 5, Integer.MAX_VALUE, 1},
            {0, 5, 1, Integer.MIN_VALUE}, {0, 5, 1, Integer.MAX_VALUE}};
        for (int[] b : bad) {
            refused("room(" + b[0] + ", " + b[1] + ", " + b[2] + ", " + b[3] + ")", -2, Nurseries::busy, x -> x.room(b[0], b[1], b[2], b[3]));
        }
        due("none of them", Nurseries.busy().room(0, 5, 1, 1), 2);
    }

    private static void roomTooMany() {
        CHECK.sentence("Promise 3", "TOO_MANY if there are 5 rooms.");
        refused("room(5, 6, 1, 1)", -4, () -> Nurseries.withRooms(5), x -> x.room(5, 6, 1, 1));
        NurseryPlaces x = Nurseries.withRooms(4);
        due("there are 4", x.room(5, 6, 1, 1), 4);
        due("there are 5", x.room(5, 6, 1, 1), -4);
        x.undo();
        due("there are 4 again", x.room(5, 6, 1, 1), 4);
    }

    private static void carerDays() {
        CHECK.sentence("Promise 4", "- `days`: a set, 1 to 31");
        refused("carer(0, 0, 0, 10)", -2, Nurseries::busy, x -> x.carer(0, 0, 0, 10));
        refused("carer(0, 32, 0, 10)", -2, Nurseries::busy, x -> x.carer(0, 32, 0, 10));
        NurseryPlaces x = Nurseries.withRooms(1);
        due("carer(0, 1, 0, 10)", x.carer(0, 1, 0, 10), 0);
        due("days 1", x.ofCarer(0, 1), 1);
        due("carer(0, 31, 0, 10)", x.carer(0, 31, 0, 10), 1);
        due("days 31", x.ofCarer(1, 1), 31);
    }

    private static void carerFrom() {
        CHECK.sentence("Promise 4", "- `from`: 0 to 9");
        refused("carer(0, 31, -1, 5)", -2, Nurseries::busy, x -> x.carer(0, 31, -1, 5));
        refused("carer(0, 31, 10, 11)", -2, Nurseries::busy, x -> x.carer(0, 31, 10, 11));
        refused("carer(0, 31, 10, 10)", -2, Nurseries::busy, x -> x.carer(0, 31, 10, 10));
        NurseryPlaces x = Nurseries.withRooms(1);
        due("carer(0, 31, 0, 10)", x.carer(0, 31, 0, 10), 0);
        due("from 0", x.ofCarer(0, 2), 0);
        due("carer(0, 31, 9, 10)", x.carer(0, 31, 9, 10), 1);
        due("from 9", x.ofCarer(1, 2), 9);
    }

    private static void carerTo() {
        CHECK.sentence("Promise 4", "- `to`: from + 1 to 10");
        refused("carer(0, 31, 3, 3)", -2, Nurseries::busy, x -> x.carer(0, 31, 3, 3));
        refused("carer(0, 31, 3, 2)", -2, Nurseries::busy, x -> x.carer(0, 31, 3, 2));
        refused("carer(0, 31, 3, 11)", -2, Nurseries::busy, x -> x.carer(0, 31, 3, 11));
        NurseryPlaces x = Nurseries.withRooms(1);
        due("carer(0, 31, 3, 4)", x.carer(0, 31, 3, 4), 0);
        due("to 4", x.ofCarer(0, 3), 4);
        due("carer(0, 31, 3, 10)", x.carer(0, 31, 3, 10), 1);
        due("to 10", x.ofCarer(1, 3), 10);
    }

    private static void carerNumber() {
        CHECK.sentence("Promise 4", "Returns the number");
        NurseryPlaces x = Nurseries.withRooms(2);
        for (int i = 0; i < 12; i++) {
            due("carer " + i, x.carer(i % 2, i + 1, 0, 10), i);
            due("carers", x.count(2), i + 1);
        }
        for (int i = 0; i < 12; i++) due("the days of carer " + i, x.ofCarer(i, 1), i + 1);
    }

    private static void carerNoRoom() {
        CHECK.sentence("Promise 4", "NO_SUCH if there is no such room");
        for (int room : new int[] {-1, 2, Integer.MIN_VALUE, Integer.MAX_VALUE}) {
            refused("carer(" + room + ", 31, 0, 10)", -1, Nurseries::busy, x -> x.carer(room, 31, 0, 10));
        }
        refused("carer(0, 31, 0, 10) of a new object", -1, NurseryPlaces::new, x -> x.carer(0, 31, 0, 10));
        due("the first room", Nurseries.busy().carer(0, 31, 0, 10), 2);
        due("the last room", Nurseries.busy().carer(1, 31, 0, 10), 2);
        due("not even with 5 rooms", Nurseries.withRooms(5).carer(5, 31, 0, 10), -1);
        due("but the fifth", Nurseries.withRooms(5).carer(4, 31, 0, 10), 0);
    }

    private static void carerBadValue() {
        CHECK.sentence("Promise 4", "BAD_VALUE if another argument is out of range");
        int[][] bad = {{-1, 0, 10}, {Integer.MIN_VALUE, 0, 10}, {Integer.MAX_VALUE, 0, 10}, {31, Integer.MIN_VALUE, 10}, {31, Integer.MAX_VALUE, 10},
            {31, Integer.MAX_VALUE, Integer.MIN_VALUE}, {31, 0, Integer.MIN_VALUE}, {31, 0, Integer.MAX_VALUE}};
        for (int[] b : bad) refused("carer(0, " + b[0] + ", " + b[1] + ", " + b[2] + ")", -2, Nurseries::busy, x -> x.carer(0, b[0], b[1], b[2]));
        due("none of them", Nurseries.busy().carer(0, 31, 0, 10), 2);
    }

    private static void carerTooMany() {
        CHECK.sentence("Promise 4", "TOO_MANY if there are 12 carers.");
        refused("carer(0, 31, 0, 10)", -4, () -> Nurseries.withCarers(12), x -> x.carer(0, 31, 0, 10));
        NurseryPlaces x = Nurseries.withCarers(11);
        due("there are 11", x.carer(0, 31, 0, 10), 11);
        due("there are 12", x.carer(0, 31, 0, 10), -4);
        due("11 are sick", x.sick(11), 1);
        due("a sick one is still there", x.carer(0, 31, 0, 10), -4);
        x.undo();
        x.undo();
        due("there are 11 again", x.carer(0, 31, 0, 10), 11);
    }

    private static void childComes() {
        CHECK.sentence("Promise 5", "A child comes to the waiting list.");
        NurseryPlaces x = Nurseries.withPlaces(1);
        x.set(3, 0);
        x.weeks(3);
        x.child(10, 7, 5);
        int[] child = {10, 7, 5, 0, -6, 0, 0, 0, -6, 0, 0, 0, 3};
        for (int what = 0; what < child.length; what++) due("ofChild(0, " + what + "), though there is a place", x.ofChild(0, what), child[what]);
        due("waiting ones", x.count(4), 1);
    }

    private static void childAge() {
        CHECK.sentence("Promise 5", "- `age`: 0 to 72");
        refused("child(-1, 0, 1)", -2, Nurseries::busy, x -> x.child(-1, 0, 1));
        refused("child(73, 0, 1)", -2, Nurseries::busy, x -> x.child(73, 0, 1));
        NurseryPlaces x = new NurseryPlaces();
        due("child(0, 0, 1)", x.child(0, 0, 1), 0);
        due("age 0", x.ofChild(0, 0), 0);
        due("child(72, 0, 1)", x.child(72, 0, 1), 1);
        due("age 72", x.ofChild(1, 0), 72);
    }

    private static void childFamily() {
        CHECK.sentence("Promise 5", "- `family`: 0 to 15");
        refused("child(0, -1, 1)", -2, Nurseries::busy, x -> x.child(0, -1, 1));
        refused("child(0, 16, 1)", -2, Nurseries::busy, x -> x.child(0, 16, 1));
        NurseryPlaces x = new NurseryPlaces();
        due("child(0, 0, 1)", x.child(0, 0, 1), 0);
        due("family 0", x.ofChild(0, 1), 0);
        due("child(0, 15, 1)", x.child(0, 15, 1), 1);
        due("family 15", x.ofChild(1, 1), 15);
    }

    private static void childWish() {
        CHECK.sentence("Promise 5", "- `wish`: 1 to 1023");
        refused("child(0, 0, 0)", -2, Nurseries::busy, x -> x.child(0, 0, 0));
        refused("child(0, 0, 1024)", -2, Nurseries::busy, x -> x.child(0, 0, 1024));
        NurseryPlaces x = new NurseryPlaces();
        due("child(0, 0, 1)", x.child(0, 0, 1), 0);
        due("wish 1", x.ofChild(0, 2), 1);
        due("child(0, 0, 1023)", x.child(0, 0, 1023), 1);
        due("wish 1023", x.ofChild(1, 2), 1023);
    }

    private static void childNumber() {
        CHECK.sentence("Promise 5", "Returns its number");
        NurseryPlaces x = new NurseryPlaces();
        for (int i = 0; i < 24; i++) {
            due("child " + i, x.child(i, i % 16, i + 1), i);
            due("children", x.count(3), i + 1);
        }
        for (int i = 0; i < 24; i++) due("the wish of child " + i, x.ofChild(i, 2), i + 1);
    }

    private static void childBadValue() {
        CHECK.sentence("Promise 5", "BAD_VALUE if an argument is out of range");
        int[][] bad = {{Integer.MIN_VALUE, 0, 1}, {Integer.MAX_VALUE, 0, 1}, {0, Integer.MIN_VALUE, 1}, {0, Integer.MAX_VALUE, 1},
            {0, 0, -1}, {0, 0, Integer.MIN_VALUE}, {0, 0, Integer.MAX_VALUE}};
        for (int[] b : bad) refused("child(" + b[0] + ", " + b[1] + ", " + b[2] + ")", -2, Nurseries::busy, x -> x.child(b[0], b[1], b[2]));
        due("none of them", Nurseries.busy().child(0, 0, 1), 5);
    }

    private static void childTooMany() {
        CHECK.sentence("Promise 5", "TOO_MANY if there were 24 children.");
        refused("child(0, 0, 1)", -4, () -> Nurseries.withChildren(24), x -> x.child(0, 0, 1));
        NurseryPlaces x = Nurseries.withChildren(23);
        due("there were 23", x.child(0, 0, 1), 23);
        due("there were 24", x.child(0, 0, 1), -4);
        for (int child = 1; child < 24; child++) x.leave(child);
        due("they are all gone", x.child(0, 0, 1), -4);
        x = Nurseries.withChildren(23);
        x.child(0, 0, 1);
        x.undo();
        due("the last one never came", x.child(0, 0, 1), 23);
    }

    private static void leaveIsGone() {
        CHECK.sentence("Promise 6", "A child leaves: it is GONE, and a visit of it that is planned is not.");
        NurseryPlaces x = Nurseries.busy();
        due("a visit is planned", x.count(11), 1);
        x.leave(2);
        int[] gone = {10, 2, 3, 2, -6, 0, 0, 0, -6, 0, 0, 0, 2};
        for (int what = 0; what < gone.length; what++) due("ofChild(2, " + what + ")", x.ofChild(2, what), gone[what]);
        due("none is planned", x.count(11), 0);
        due("the places that it had are not taken", x.ofRoom(0, 20), 1);
        x.weeks(1);
        due("no visit took place", x.count(9), 0);
        due("it was not sent home", x.ofChild(2, 10), 0);
        x.leave(0);
        due("a settled one is not settled any more", x.count(7), 2);
    }

    private static void leavePlaced() {
        CHECK.sentence("Promise 6", "Returns how many children are PLACED then");
        NurseryPlaces x = Nurseries.busy();
        due("a waiting one leaves", x.leave(3), 3);
        due("a placed one", x.leave(0), 2);
        due("the next one", x.leave(2), 1);
        due("the last one", x.leave(1), 0);
    }

    private static void leaveNoChild() {
        CHECK.sentence("Promise 6", "NO_SUCH if there is no such child");
        for (int child : new int[] {-1, 5, Integer.MIN_VALUE, Integer.MAX_VALUE}) {
            refused("leave(" + child + ")", -1, Nurseries::busy, x -> x.leave(child));
        }
        refused("leave(24)", -1, () -> Nurseries.withChildren(24), x -> x.leave(24));
        due("the first one", Nurseries.busy().leave(0), 2);
        due("the last one", Nurseries.withChildren(24).leave(23), 0);
    }

    private static void leaveNotPossible() {
        CHECK.sentence("Promise 6", "NOT_POSSIBLE if it is GONE.");
        refused("leave(4), which left", -5, Nurseries::busy, x -> x.leave(4));
        NurseryPlaces x = new NurseryPlaces();
        x.child(0, 0, 1);
        x.weeks(13);
        due("gone, for it waited too long", x.leave(0), -5);
        due("a waiting one is not", Nurseries.busy().leave(3), 3);
    }
}
