/** Nurseries that tests begin with. */
final class Nurseries {
    private Nurseries() {
    }

    /** One room for all ages below 72, with so many places in each session; LEAST is 1. */
    static NurseryPlaces withPlaces(int places) {
        NurseryPlaces x = new NurseryPlaces();
        x.room(0, 72, places, 12);
        for (int i = 0; i * 12 < places; i++) x.carer(0, 31, 0, 10);
        x.set(2, 1);
        return x;
    }

    /** One room for all ages below 72, with a place for each carer, all there at all hours; LEAST is 1, VISITS is 0. */
    static NurseryPlaces withCarers(int carers) {
        NurseryPlaces x = new NurseryPlaces();
        x.room(0, 72, 40, 1);
        for (int i = 0; i < carers; i++) x.carer(0, 31, 0, 10);
        x.set(2, 1);
        x.set(3, 0);
        return x;
    }

    /** A room for the ages below 12 with 5 places in each session, and one for 12 to 71 with this many; LEAST is 1, VISITS is 0. */
    static NurseryPlaces withTwoRooms(int placesOfSecond) {
        NurseryPlaces x = new NurseryPlaces();
        x.room(0, 12, 5, 12);
        x.room(12, 72, placesOfSecond, 12);
        x.carer(0, 31, 0, 10);
        x.carer(1, 31, 0, 10);
        x.set(2, 1);
        x.set(3, 0);
        return x;
    }

    /**
     * In room 0 child 0 (settled, sessions 0 to 2) and child 2 (not settled, sessions 0 and 1, visits 9), in room 1
     * child 1 (settled, sessions 3 to 5), child 3 waits, child 4 is gone, carer 0 is sick, carer 1 is not; LEAST is 2.
     * More than six changes were made, slot 0 is saved, slot 1 is not, and a text without a fault stands on the pad.
     */
    static NurseryPlaces busy() {
        NurseryPlaces x = new NurseryPlaces();
        x.room(0, 30, 3, 3);
        x.room(30, 72, 3, 3);
        x.carer(0, 31, 0, 10);
        x.carer(1, 31, 0, 10);
        x.set(3, 0);
        x.child(10, 0, 7);
        x.child(40, 1, 56);
        x.admit();
        x.weeks(2);
        x.save(0);
        x.set(3, 2);
        x.child(10, 2, 3);
        x.child(72, 3, 1023);
        x.child(20, 0, 192);
        x.admit();
        x.leave(4);
        x.visit(2, 9);
        x.sick(0);
        Texts.put(x, "s1;a;w2");
        return x;
    }

    static NurseryPlaces withRooms(int rooms) {
        NurseryPlaces x = new NurseryPlaces();
        for (int i = 0; i < rooms; i++) x.room(i, i + 1, 1, 1);
        return x;
    }

    /** So many children, the first of which is gone, the last of which is placed. */
    static NurseryPlaces withChildren(int children) {
        NurseryPlaces x = withPlaces(1);
        for (int i = 0; i < children; i++) x.child(i < children - 1 ? 72 : 10, i % 16, 1);
        x.leave(0);
        x.admit();
        return x;
    }
}
