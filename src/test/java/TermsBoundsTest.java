/** "What it is" and the terms: conventions, settings, sessions, rooms, carers, children. Each sentence with a boundary has a test. */
public final class TermsBoundsTest {
    private static final Check CHECK = new Check("TermsBoundsTest");

    public static void main(String[] args) {
        use();
        orderOfErrors();
        errorsChangeNothing();
        noneIsNoError();
        roundedDown();
        numbers();
        sets();
        weekAtFirst();
        price();
        discount();
        least();
        visits();
        patience();
        hoursOfSessions();
        rooms();
        roomsBand();
        carers();
        shifts();
        sickInThePresentWeek();
        places();
        childrenThatEverCame();
        childrenThatCome();
        placesTaken();
        roomOfAge();
        CHECK.finish();
    }

    private static void due(String call, int got, int want) {
        CHECK.due(call, got, want);
    }

    private static void use() {
        CHECK.sentence("What it is", "An object is used for at most 512 calls after it has been made");
        NurseryPlaces x = new NurseryPlaces();
        for (int call = 1; call <= 511; call++) x.weeks(1);
        due("the 512th call, weeks(1)", x.weeks(1), 512);
        x = new NurseryPlaces();
        for (int call = 1; call <= 511; call++) x.weeks(52);
        due("the 512th call, weeks(52)", x.weeks(52), 512 * 52);
        x = new NurseryPlaces();
        for (int call = 1; call <= 511; call++) x.set(0, call);
        due("the 512th call, set()", x.set(0, 0), 511);
        x = new NurseryPlaces();
        x.room(0, 1, 1, 1);
        for (int call = 2; call <= 510; call++) x.admit();
        x.weeks(3);
        due("the 512th call, undo()", x.undo(), 5);
    }

    private static void orderOfErrors() {
        CHECK.sentence("Terms", "it names its errors in the order in which they are checked, and the first one that applies is returned.");
        NurseryPlaces x = Nurseries.withRooms(5);
        due("room(): a bad value goes before too many", x.room(0, 0, 1, 1), -2);
        due("carer(): no room goes before a bad value", x.carer(5, 0, 0, 10), -1);
        for (int i = 0; i < 12; i++) x.carer(0, 31, 0, 10);
        due("carer(): no room goes before too many", x.carer(5, 31, 0, 10), -1);
        due("carer(): a bad value goes before too many", x.carer(0, 0, 0, 10), -2);
        due("ofRoom(): no room goes before a bad value", x.ofRoom(5, 40), -1);
        due("ofCarer(): no carer goes before a bad value", x.ofCarer(12, 5), -1);
        due("moreBy(): no room goes before a bad value", x.moreBy(5, 0, 0, 10), -1);
        x = Nurseries.withChildren(24);
        due("child(): a bad value goes before too many", x.child(0, 0, 0), -2);
        due("ofChild(): no child goes before a bad value", x.ofChild(24, 13), -1);
        x = Nurseries.busy();
        due("visit(): no session goes before what is not possible", x.visit(4, 10), -1);
        due("swap(): no session goes before what is not possible", x.swap(4, 10, 3, 0), -1);
        due("swap(): no other session goes before what is not possible", x.swap(4, 0, 3, 10), -1);
        due("swap(): no other child goes before what is not possible", x.swap(4, 0, 5, 0), -1);
        due("swap(): the same child goes before what is not possible", x.swap(4, 0, 4, 0), -1);
        due("giveBack(): no session goes before what is not possible", x.giveBack(4, 10), -1);
        x = new NurseryPlaces();
        for (int i = 0; i < 10; i++) x.put(0x6161616161616161L);
        due("put(): a bad value goes before too many", x.put(0), -2);
        due("put(): a bad value goes before too many", x.put(0x6120), -2);
        due("restore(): a bad value goes before what is not possible", x.restore(2), -2);
    }

    private static void errorsChangeNothing() {
        CHECK.sentence("Terms", "A call that returns an error changes nothing.");
        Unchanged.due(CHECK, "set()", Nurseries::busy, x -> x.set(5, 1), -2);
        Unchanged.due(CHECK, "room()", Nurseries::busy, x -> x.room(0, 0, 1, 1), -2);
        Unchanged.due(CHECK, "carer()", Nurseries::busy, x -> x.carer(2, 31, 0, 10), -1);
        Unchanged.due(CHECK, "child()", Nurseries::busy, x -> x.child(0, 0, 1024), -2);
        Unchanged.due(CHECK, "leave()", Nurseries::busy, x -> x.leave(4), -5);
        Unchanged.due(CHECK, "visit()", Nurseries::busy, x -> x.visit(2, 0), -5);
        Unchanged.due(CHECK, "swap()", Nurseries::busy, x -> x.swap(0, 0, 2, 1), -5);
        Unchanged.due(CHECK, "giveBack()", Nurseries::busy, x -> x.giveBack(2, 0), -5);
        Unchanged.due(CHECK, "sick()", Nurseries::busy, x -> x.sick(0), -5);
        Unchanged.due(CHECK, "weeks()", Nurseries::busy, x -> x.weeks(53), -2);
        Unchanged.due(CHECK, "put()", Nurseries::busy, x -> x.put(32), -2);
        Unchanged.due(CHECK, "save()", Nurseries::busy, x -> x.save(2), -2);
        Unchanged.due(CHECK, "restore()", Nurseries::busy, x -> x.restore(1), -5);
    }

    private static void noneIsNoError() {
        CHECK.sentence("Terms", "NONE (-6) is not an error; it is returned only if no error applies.");
        NurseryPlaces x = Nurseries.busy();
        due("a waiting child has no room", x.ofChild(3, 4), -6);
        due("nor a planned visit", x.ofChild(3, 8), -6);
        due("a child that there is not: its room", x.ofChild(5, 4), -1);
        due("its visit", x.ofChild(5, 8), -1);
        due("a pad without a fault", x.fault(), -6);
        x.wipe();
        due("a pad with one", x.fault(), 0);
    }

    private static void roundedDown() {
        CHECK.sentence("Terms", "Divisions are rounded down, unless \"rounded up\" is written.");
        int[][] fees = {{1, 1, 0}, {1, 0, 1}, {101, 1, 99}, {150, 33, 100}, {100, 33, 67}, {199, 50, 99}, {200, 50, 100}, {9999, 99, 99}, {10000, 99, 100}};
        for (int[] fee : fees) {
            NurseryPlaces x = Nurseries.withCarers(2);
            x.child(10, 0, 1);
            x.child(10, 0, 1);
            x.admit();
            x.set(0, fee[0]);
            x.set(1, fee[1]);
            x.weeks(1);
            due("the fee of a sibling with PRICE " + fee[0] + ", DISCOUNT " + fee[1], x.ofChild(1, 11), fee[2]);
        }
    }

    private static void numbers() {
        CHECK.sentence("Terms", "Everything is numbered from 0, in the order in which it was made.");
        NurseryPlaces x = new NurseryPlaces();
        due("the first room", x.room(3, 4, 1, 1), 0);
        due("the second room", x.room(1, 2, 1, 1), 1);
        due("the first carer", x.carer(1, 2, 0, 1), 0);
        due("the second carer", x.carer(0, 1, 0, 1), 1);
        due("the first child", x.child(7, 0, 1), 0);
        due("the second child", x.child(5, 0, 1), 1);
        due("room 0", x.ofRoom(0, 0), 3);
        due("room 1", x.ofRoom(1, 0), 1);
        due("carer 0", x.ofCarer(0, 0), 1);
        due("carer 1", x.ofCarer(1, 0), 0);
        due("child 0", x.ofChild(0, 0), 7);
        due("child 1", x.ofChild(1, 0), 5);
    }

    private static void sets() {
        CHECK.sentence("Terms", "Sets are bit masks.");
        NurseryPlaces x = new NurseryPlaces();
        x.room(0, 72, 40, 12);
        x.carer(0, 1 + 16, 0, 10);
        x.child(10, 0, 1 + 512);
        x.child(10, 0, 4 + 8);
        for (int i = 2; i < 24; i++) x.child(10, 0, 1 + 2);
        for (int i = 1; i < 12; i++) x.carer(0, 16, 0, 10);
        due("day 0 is bit 0: session 1 has places", x.ofRoom(0, 11), 12);
        due("day 1 is bit 1: session 2 has none", x.ofRoom(0, 12), 0);
        due("day 4 is bit 4: session 8 has places", x.ofRoom(0, 18), 40);
        due("carers 0 to 11", x.ofRoom(0, 4), 4095);
        due("children 0 and 2 to 12 would be placed: session 0 has 12 places", x.wouldAdmit(), 8191 - 2);
        x.leave(1);
        due("child 1 is bit 1", x.count(6), 2);
        x.leave(23);
        due("child 23 is bit 23", x.count(6), 2 + 8388608);
        x.admit();
        due("the sessions 0 and 9", x.ofChild(0, 5), 513);
    }

    private static void weekAtFirst() {
        CHECK.sentence("Terms", "The week is 0 at first.");
        NurseryPlaces x = new NurseryPlaces();
        due("count(0)", x.count(0), 0);
        x.child(5, 0, 1);
        due("the week in which the first child came", x.ofChild(0, 12), 0);
        due("weeks(1)", x.weeks(1), 1);
    }

    private static void range(int setting, int lowest, int highest, int first) {
        due("the first value", new NurseryPlaces().count(14 + setting), first);
        Unchanged.due(CHECK, "one below", Nurseries::busy, x -> x.set(setting, lowest - 1), -2);
        Unchanged.due(CHECK, "one above", Nurseries::busy, x -> x.set(setting, highest + 1), -2);
        NurseryPlaces x = new NurseryPlaces();
        due("set to the lowest", x.set(setting, lowest), first);
        due("the lowest", x.count(14 + setting), lowest);
        due("set to the highest", x.set(setting, highest), lowest);
        due("the highest", x.count(14 + setting), highest);
    }

    private static void price() {
        CHECK.sentence("Terms", "PRICE (0 to 10000; 3000), for a session.");
        range(0, 0, 10000, 3000);
        NurseryPlaces x = Nurseries.withCarers(1);
        x.child(10, 0, 3);
        x.admit();
        x.weeks(1);
        due("two sessions for 3000 each", x.ofChild(0, 11), 6000);
        x.set(0, 0);
        x.weeks(1);
        due("for 0", x.ofChild(0, 11), 6000);
        x.set(0, 10000);
        x.weeks(1);
        due("for 10000", x.ofChild(0, 11), 26000);
    }

    private static void discount() {
        CHECK.sentence("Terms", "DISCOUNT (0 to 100; 20), in percent.");
        range(1, 0, 100, 20);
        NurseryPlaces x = Nurseries.withCarers(2);
        x.child(10, 0, 1);
        x.child(10, 0, 1);
        x.admit();
        x.weeks(1);
        due("20 percent off", x.ofChild(1, 11), 2400);
        x.set(1, 0);
        x.weeks(1);
        due("nothing off", x.ofChild(1, 11), 2400 + 3000);
        x.set(1, 100);
        x.weeks(1);
        due("all off", x.ofChild(1, 11), 2400 + 3000);
    }

    private static void least() {
        CHECK.sentence("Terms", "LEAST (1 to 10; 2), sessions.");
        range(2, 1, 10, 2);
        NurseryPlaces x = new NurseryPlaces();
        x.room(0, 72, 5, 5);
        x.carer(0, 31, 0, 10);
        x.child(10, 0, 1);
        x.child(10, 0, 3);
        x.child(10, 0, 511);
        x.child(10, 0, 1023);
        due("1 is fewer than 2", x.wouldGet(0), 0);
        due("2 are not", x.wouldGet(1), 3);
        x.set(2, 1);
        due("1 is not fewer than 1", x.wouldGet(0), 1);
        x.set(2, 10);
        due("9 are fewer than 10", x.wouldGet(2), 0);
        due("10 are not", x.wouldGet(3), 1023);
    }

    /** How many visits a child makes until it is settled. */
    private static int visitsUntilSettled(NurseryPlaces x) {
        x.child(10, 0, 3);
        x.admit();
        int visits = 0;
        while (x.ofChild(0, 6) == 0 && visits < 20) {
            x.visit(0, 0);
            x.weeks(1);
            visits++;
        }
        return visits;
    }

    private static void visits() {
        CHECK.sentence("Terms", "VISITS (0 to 9; 3).");
        range(3, 0, 9, 3);
        due("3 at first", visitsUntilSettled(Nurseries.withPlaces(1)), 3);
        NurseryPlaces x = Nurseries.withPlaces(1);
        x.set(3, 0);
        due("0: settled at once", visitsUntilSettled(x), 0);
        x = Nurseries.withPlaces(1);
        x.set(3, 9);
        due("9", visitsUntilSettled(x), 9);
    }

    private static void patience() {
        CHECK.sentence("Terms", "PATIENCE (0 to 99; 12), in weeks.");
        range(4, 0, 99, 12);
        NurseryPlaces x = new NurseryPlaces();
        x.child(10, 0, 1);
        x.weeks(12);
        due("12 weeks at first", x.ofChild(0, 3), 0);
        x.weeks(1);
        due("13 are more", x.ofChild(0, 3), 2);
        x.set(4, 0);
        x.child(10, 0, 1);
        x.weeks(1);
        due("1 is more than 0", x.ofChild(1, 3), 2);
        x.set(4, 99);
        x.child(10, 0, 1);
        x.weeks(52);
        x.weeks(47);
        due("99 weeks", x.ofChild(2, 3), 0);
        x.weeks(1);
        due("100 are more", x.ofChild(2, 3), 2);
    }

    private static void hoursOfSessions() {
        CHECK.sentence("Terms", "the session 2 * day are the hours 0 to 4 of the day, the session 2 * day + 1 the hours 5 to 9.");
        int[][] shifts = {{0, 5}, {5, 10}, {0, 10}, {0, 4}, {1, 5}, {5, 9}, {6, 10}, {4, 10}, {0, 6}, {0, 9}, {1, 10}, {4, 5}, {5, 6}};
        int[] halves = {1, 2, 3, 0, 0, 0, 0, 2, 1, 1, 2, 0, 0};
        for (int day = 0; day < 5; day++) {
            for (int i = 0; i < shifts.length; i++) {
                NurseryPlaces x = new NurseryPlaces();
                x.room(0, 72, 40, 1);
                x.carer(0, 1 << day, shifts[i][0], shifts[i][1]);
                int sessions = 0;
                for (int session = 0; session < 10; session++) sessions |= x.ofRoom(0, 10 + session) << session;
                due("day " + day + ", hours " + shifts[i][0] + " to " + shifts[i][1], sessions, halves[i] << 2 * day);
            }
        }
    }

    private static void rooms() {
        CHECK.sentence("Terms", "There are up to 5 rooms.");
        due("the fifth", Nurseries.withRooms(4).room(5, 6, 7, 8), 4);
        Unchanged.due(CHECK, "a sixth", () -> Nurseries.withRooms(5), x -> x.room(5, 6, 7, 8), -4);
    }

    private static void roomsBand() {
        CHECK.sentence("Terms", "A room has a band of ages in months (from a month up to a later one, which does not belong to it), a capacity (1 to 40) and a ratio (1 to 12 children for a carer).");
        NurseryPlaces x = new NurseryPlaces();
        x.room(10, 20, 40, 12);
        x.room(30, 31, 1, 1);
        for (int i = 0; i < 4; i++) x.carer(0, 31, 0, 10);
        x.carer(1, 31, 0, 10);
        int[] ages = {9, 10, 19, 20, 29, 30, 31};
        int[] sessions = {0, 3, 3, 0, 0, 3, 0};
        for (int i = 0; i < ages.length; i++) {
            x.child(ages[i], 0, 3);
            due("what " + ages[i] + " months get", x.wouldGet(i), sessions[i]);
        }
        due("48 children for 4 carers, but 40 at most", x.ofRoom(0, 10), 40);
        due("1 at most", x.ofRoom(1, 10), 1);
    }

    private static void carers() {
        CHECK.sentence("Terms", "There are up to 12 carers.");
        NurseryPlaces x = Nurseries.withCarers(11);
        due("the twelfth", x.carer(0, 31, 0, 10), 11);
        due("its place", x.ofRoom(0, 10), 12);
        Unchanged.due(CHECK, "one more", () -> Nurseries.withCarers(12), y -> y.carer(0, 31, 0, 10), -4);
    }

    private static void shifts() {
        CHECK.sentence("Terms", "hours from one up to a later one, which does not belong to it, on each of these days.");
        NurseryPlaces x = new NurseryPlaces();
        x.room(0, 72, 40, 1);
        x.carer(0, 1 + 4, 0, 4);
        due("hour 4 does not belong to it", x.ofRoom(0, 10), 0);
        due("an hour more has 1 place on each of both days", x.moreBy(0, 1 + 4, 4, 5), 2);
        due("none on other days", x.moreBy(0, 2 + 8 + 16, 4, 5), 0);
        x.carer(0, 1 + 4, 4, 5);
        int[] places = {1, 0, 0, 0, 1, 0, 0, 0, 0, 0};
        for (int session = 0; session < 10; session++) due("places in session " + session, x.ofRoom(0, 10 + session), places[session]);
    }

    private static void sickInThePresentWeek() {
        CHECK.sentence("Terms", "A carer can be sick for the present week.");
        NurseryPlaces x = Nurseries.withCarers(1);
        due("not yet", x.ofCarer(0, 4), 0);
        x.sick(0);
        due("in this week", x.ofCarer(0, 4), 1);
        due("there is no place", x.ofRoom(0, 39), 0);
        x.weeks(1);
        due("not in the next one", x.ofCarer(0, 4), 0);
        due("there is one", x.ofRoom(0, 39), 1);
    }

    private static void places() {
        CHECK.sentence("Terms", "The places of a room in a session are the least number, over the hours of the session, of ratio times the carers of this room who are there in this hour; but at most its capacity. (Sick ones count, unless it is written otherwise.)");
        int[] capacities = {1, 5, 6, 7, 40};
        for (int capacity : capacities) {
            NurseryPlaces x = new NurseryPlaces();
            x.room(0, 72, capacity, 3);
            x.room(0, 72, capacity, 3);
            due("no carer, no place", x.ofRoom(0, 10), 0);
            x.carer(0, 31, 0, 10);
            x.carer(0, 31, 0, 3);
            x.carer(0, 31, 3, 10);
            x.carer(1, 31, 0, 10);
            due("two carers in each hour, capacity " + capacity, x.ofRoom(0, 10), Math.min(6, capacity));
            due("in the other room one", x.ofRoom(1, 10), Math.min(3, capacity));
            x.sick(0);
            due("sick ones count", x.ofRoom(0, 10), Math.min(6, capacity));
            due("sick ones do not", x.ofRoom(0, 30), Math.min(3, capacity));
        }
        NurseryPlaces x = new NurseryPlaces();
        x.room(0, 72, 40, 3);
        x.carer(0, 31, 0, 10);
        x.carer(0, 31, 0, 3);
        x.carer(0, 31, 4, 10);
        due("hour 3 has one carer alone", x.ofRoom(0, 10), 3);
        due("each hour of the other session has two", x.ofRoom(0, 11), 6);
    }

    private static void childrenThatEverCame() {
        CHECK.sentence("Terms", "There are up to 24 children (all that ever came).");
        due("the last one", Nurseries.withChildren(23).child(0, 0, 1), 23);
        Unchanged.due(CHECK, "one more, though one is gone", () -> Nurseries.withChildren(24), x -> x.child(0, 0, 1), -4);
    }

    private static void childrenThatCome() {
        CHECK.sentence("Terms", "A child has an age in months (0 to 72 when it comes), a family (0 to 15), a wish (a set of sessions, 1 to 1023), and is WAITING (0), PLACED (1) or GONE (2).");
        NurseryPlaces x = Nurseries.withPlaces(1);
        x.set(4, 99);
        x.child(72, 15, 1023);
        x.child(0, 0, 1);
        due("WAITING", x.ofChild(1, 3), 0);
        x.admit();
        due("PLACED", x.ofChild(1, 3), 1);
        x.leave(1);
        due("GONE", x.ofChild(1, 3), 2);
        x.weeks(52);
        due("72 months only when it comes: 13 months later", x.ofChild(0, 0), 85);
        due("and waiting", x.ofChild(0, 3), 0);
    }

    private static void placesTaken() {
        CHECK.sentence("Terms", "Its place in a session of its room is taken from the time on when it is PLACED, whether it is settled or not.");
        NurseryPlaces x = Nurseries.withPlaces(2);
        x.child(10, 0, 1);
        due("not by a waiting child", x.ofRoom(0, 20), 0);
        x.admit();
        due("by one that is not settled", x.ofRoom(0, 20), 1);
        due("not in another session", x.ofRoom(0, 21), 0);
        x.set(3, 0);
        x.weeks(1);
        due("by one that is", x.ofRoom(0, 20), 1);
        x.child(10, 0, 1);
        x.admit();
        due("by both", x.free(0, 0), 0);
        x.leave(0);
        due("not by one that is gone", x.ofRoom(0, 20), 1);
    }

    private static void roomOfAge() {
        CHECK.sentence("Terms", "The room of an age is the room with the lowest number in whose band it is.");
        NurseryPlaces x = new NurseryPlaces();
        x.room(10, 20, 9, 1);
        x.room(1, 72, 9, 9);
        x.room(0, 72, 9, 9);
        for (int room = 0; room < 3; room++) x.carer(room, 31, 0, 10);
        int[] ages = {0, 1, 9, 10, 19, 20, 71, 72};
        int[] rooms = {2, 1, 1, 0, 0, 1, 1, -6};
        for (int i = 0; i < ages.length; i++) x.child(ages[i], 0, 3 << (ages[i] == 19 ? 2 : 0));
        x.admit();
        for (int i = 0; i < ages.length; i++) due("the room of " + ages[i] + " months", x.ofChild(i, 4), rooms[i]);
        x.child(15, 0, 3);
        due("it is room 0, though that is full", x.wouldGet(8), 0);
        x = Nurseries.withRooms(5);
        x.child(5, 0, 1);
        x.set(2, 1);
        due("no band of 5 rooms has 5 months", x.wouldGet(0), 0);
        x.child(4, 0, 1);
        x.carer(4, 31, 0, 10);
        due("the last one has 4 months", x.wouldGet(1), 1);
    }
}
