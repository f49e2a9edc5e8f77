import java.util.function.Supplier;

/** Promises 18 to 23: a test for each sentence that names a boundary. */
public final class WhatIfBoundsTest {
    private static final Check CHECK = new Check("WhatIfBoundsTest");

    public static void main(String[] args) {
        nothingChanges();
        wouldGetAlone();
        wouldGetNothing();
        wouldGetNoSuch();
        wouldGetNotPossible();
        wouldAdmitSet();
        partnersSet();
        partnersNoSuch();
        sentHomeToo();
        sentHomeNone();
        sentHomeNoSuch();
        moreByPlaces();
        moreByDays();
        moreByNoSuch();
        moreByBadValue();
        incomeOnlyWeeks();
        incomeRange();
        incomeBadValue();
        CHECK.finish();
    }

    private static void due(String call, int got, int want) {
        CHECK.due(call, got, want);
    }

    private static void unchanged(String call, int answer, Supplier<NurseryPlaces> maker, Unchanged.Call asked) {
        Unchanged.due(CHECK, call, maker, asked, answer);
    }

    /** A busy nursery in which child 5 waits that can be placed, and child 3 that cannot. */
    private static NurseryPlaces waiting() {
        NurseryPlaces x = Nurseries.busy();
        x.child(29, 9, 1 + 2 + 4);
        return x;
    }

    private static void nothingChanges() {
        CHECK.sentence("Terms", "Ahead of the calls `free`, `wouldGet`, `wouldAdmit`, `partners`, `sentHome`, `moreBy`, `income` the interface says: ---- what if; nothing changes.");
        unchanged("free(0, 0)", 1, WhatIfBoundsTest::waiting, x -> x.free(0, 0));
        unchanged("wouldGet(5)", 7, WhatIfBoundsTest::waiting, x -> x.wouldGet(5));
        unchanged("wouldAdmit()", 32, WhatIfBoundsTest::waiting, x -> x.wouldAdmit());
        unchanged("partners(0, 2, 3)", 2, WhatIfBoundsTest::waiting, x -> x.partners(0, 2, 3));
        unchanged("sentHome(1)", 7, WhatIfBoundsTest::waiting, x -> x.sentHome(1));
        unchanged("moreBy(0, 31, 0, 10)", 0, WhatIfBoundsTest::waiting, x -> x.moreBy(0, 31, 0, 10));
        unchanged("income(1)", 9000, WhatIfBoundsTest::waiting, x -> x.income(1));
        unchanged("moreBy(0, 31, 0, 10) with 12 carers", 10, () -> Nurseries.withCarers(12), x -> x.moreBy(0, 31, 0, 10));
        unchanged("income(52)", 2 * 51 * 9000 + 9000, Nurseries::busy, x -> x.income(52));
    }

    private static void wouldGetAlone() {
        CHECK.sentence("Promise 18", "Tells which sessions a child would get if it was the only one on the list and was admitted now.");
        NurseryPlaces x = Nurseries.withPlaces(1);
        x.child(10, 0, 4);
        x.admit();
        x.child(10, 0, 1 + 2 + 4);
        x.child(10, 1, 1 + 2 + 4 + 512);
        due("the sibling that would be first", x.wouldGet(1), 1 + 2);
        due("the other one, as if there was no sibling", x.wouldGet(2), 1 + 2 + 512);
        x.admit();
        due("behind the sibling", x.wouldAdmit(), 0);
        due("that got what was free", x.ofChild(1, 5), 3);
        due("and child 2 the rest", x.ofChild(2, 5), 512);
    }

    private static void wouldGetNothing() {
        CHECK.sentence("Promise 18", "Returns the set (0 if it could not be placed)");
        NurseryPlaces x = Nurseries.withPlaces(1);
        x.child(10, 0, 1);
        x.admit();
        x.set(2, 3);
        x.child(10, 1, 1 + 2 + 4);
        x.child(10, 1, 2 + 4 + 8);
        x.child(72, 1, 2 + 4 + 8);
        due("2 free sessions are fewer than LEAST", x.wouldGet(1), 0);
        due("3 are not", x.wouldGet(2), 14);
        due("no room of its age", x.wouldGet(3), 0);
    }

    private static void wouldGetNoSuch() {
        CHECK.sentence("Promise 18", "NO_SUCH if there is no such child");
        for (int child : new int[] {-1, 5, Integer.MIN_VALUE, Integer.MAX_VALUE}) {
            unchanged("wouldGet(" + child + ")", -1, Nurseries::busy, x -> x.wouldGet(child));
        }
        NurseryPlaces x = Nurseries.withPlaces(1);
        for (int i = 0; i < 24; i++) x.child(10, 0, 1);
        due("the last of 24 children", x.wouldGet(23), 1);
        due("behind it", x.wouldGet(24), -1);
    }

    private static void wouldGetNotPossible() {
        CHECK.sentence("Promise 18", "NOT_POSSIBLE if it is not WAITING.");
        unchanged("a settled child", -5, Nurseries::busy, x -> x.wouldGet(0));
        unchanged("one that is not settled", -5, Nurseries::busy, x -> x.wouldGet(2));
        unchanged("a gone child", -5, Nurseries::busy, x -> x.wouldGet(4));
        due("a waiting child", Nurseries.busy().wouldGet(3), 0);
    }

    private static void wouldAdmitSet() {
        CHECK.sentence("Promise 19", "Tells which children would be placed if admit() was called now.");
        due("nobody", new NurseryPlaces().wouldAdmit(), 0);
        NurseryPlaces x = Nurseries.withPlaces(24);
        for (int i = 0; i < 24; i++) x.child(10, 0, 1);
        due("all of 24 children", x.wouldAdmit(), (1 << 24) - 1);
        x.admit();
        due("none of them once more", x.wouldAdmit(), 0);
        x = Nurseries.withPlaces(2);
        x.child(10, 5, 1);
        x.child(10, 6, 1);
        x.child(10, 5, 1);
        x.child(10, 6, 2);
        x.leave(3);
        due("0 and its sibling, all looked at anew", x.wouldAdmit(), 1 + 4);
    }

    private static void partnersSet() {
        CHECK.sentence("Promise 20", "Returns the set of children with whom swap() would be possible");
        NurseryPlaces x = Nurseries.withPlaces(24);
        x.child(10, 0, 1 + 2);
        for (int i = 1; i < 24; i++) x.child(10, i % 16, i == 12 ? 1 + 4 : 4);
        x.admit();
        due("not the child itself, nor 12, who has session 0", x.partners(0, 0, 2), (1 << 24) - 1 - 1 - (1 << 12));
        due("with 12, too", x.partners(0, 1, 2), (1 << 24) - 1 - 1);
        due("child 0 alone has session 1", x.partners(23, 2, 1), 1);
        due("nobody has session 9", x.partners(0, 0, 9), 0);
        due("a session that it has not", x.partners(0, 3, 2), 0);
        due("one that it has for the same", x.partners(0, 0, 0), 0);
        x.leave(23);
        due("a gone one is no partner", x.partners(0, 1, 2), (1 << 23) - 1 - 1);
        due("and has none", x.partners(23, 2, 0), 0);
        for (int free = 0; free < 4; free++) {
            x = new NurseryPlaces();
            x.room(0, 12, 1 + free % 2, 12);
            x.room(12, 72, 1 + free / 2, 12);
            x.carer(0, 31, 0, 10);
            x.carer(1, 31, 0, 10);
            x.set(2, 1);
            x.child(5, 0, 1);
            x.child(20, 1, 2);
            x.child(5, 2, 2);
            x.child(20, 3, 1);
            x.admit();
            due("1 in an unlike room needs a free place in both rooms, 2 in the same none", x.partners(0, 0, 1), free == 3 ? 2 + 4 : 4);
        }
    }

    private static void partnersNoSuch() {
        CHECK.sentence("Promise 20", "NO_SUCH if there is no such child or session.");
        for (int child : new int[] {-1, 5, Integer.MIN_VALUE, Integer.MAX_VALUE}) {
            unchanged("partners(" + child + ", 2, 3)", -1, Nurseries::busy, x -> x.partners(child, 2, 3));
        }
        for (int session : new int[] {-1, 10, 34, Integer.MIN_VALUE, Integer.MAX_VALUE}) {
            unchanged("partners(0, " + session + ", 3)", -1, Nurseries::busy, x -> x.partners(0, session, 3));
            unchanged("partners(0, 2, " + session + ")", -1, Nurseries::busy, x -> x.partners(0, 2, session));
        }
        unchanged("a waiting child has none, but is one", 0, Nurseries::busy, x -> x.partners(3, 0, 9));
        unchanged("a gone child has none, but was one", 0, Nurseries::busy, x -> x.partners(4, 9, 0));
    }

    private static void sentHomeToo() {
        CHECK.sentence("Promise 21", "Tells how many would be sent home in the present week, if a carer was sick (too), as things are.");
        NurseryPlaces x = Nurseries.withCarers(3);
        for (int i = 0; i < 3; i++) x.child(10, i, 1 + 2 * i);
        x.admit();
        x.set(3, 1);
        x.child(10, 3, 4);
        x.admit();
        x.visit(3, 6);
        due("all carers are there", x.sentHome(-6), 0);
        due("one less: 3 come to session 0, 2 to the sessions 1 and 2, 1 to session 6", x.sentHome(0), 1);
        x.sick(1);
        due("1 is sick", x.sentHome(-6), 1);
        due("1 is sick already", x.sentHome(1), 1);
        due("0 too: 2 from session 0", x.sentHome(0), 2);
        x.sick(0);
        due("all three: 3 + 1 + 1 + 1 visit", x.sentHome(2), 6);
        due("0 and 1 as things are", x.sentHome(-6), 2);
        x.weeks(1);
        due("as many were sent home", x.count(10), 2);
        due("in the next week nobody is sick", x.sentHome(-6), 0);
        due("and no visit is planned", x.sentHome(2), 1);
    }

    private static void sentHomeNone() {
        CHECK.sentence("Promise 21", "- `carer`: a carer, or NONE: as things are");
        NurseryPlaces x = Nurseries.busy();
        due("NONE: 3 sessions of 0, and the visit of 2", x.sentHome(NurseryPlaces.NONE), 4);
        due("the first carer, who is sick", x.sentHome(0), 4);
        due("the last carer: 3 sessions of 1, too", x.sentHome(1), 7);
        due("NONE in an empty nursery", new NurseryPlaces().sentHome(-6), 0);
    }

    private static void sentHomeNoSuch() {
        CHECK.sentence("Promise 21", "NO_SUCH if there is no such carer.");
        for (int carer : new int[] {-1, 2, -2, -3, -4, -5, -7, Integer.MIN_VALUE, Integer.MAX_VALUE}) {
            unchanged("sentHome(" + carer + ")", -1, Nurseries::busy, x -> x.sentHome(carer));
        }
        unchanged("sentHome(12)", -1, () -> Nurseries.withCarers(12), x -> x.sentHome(12));
        due("the last of 12", Nurseries.withCarers(12).sentHome(11), 0);
    }

    private static void moreByPlaces() {
        CHECK.sentence("Promise 22", "Tells by how many places all sessions of a room would have more together, if there was a carer more in it.");
        for (int capacity = 3; capacity <= 7; capacity++) {
            NurseryPlaces x = new NurseryPlaces();
            x.room(0, 72, capacity, 3);
            x.room(0, 72, 40, 12);
            x.carer(0, 31, 0, 10);
            int more = Math.min(6, capacity) - 3;
            due("6 places instead of 3, capacity " + capacity, x.moreBy(0, 31, 0, 10), 10 * more);
            due("on day 4 alone", x.moreBy(0, 16, 0, 10), 2 * more);
            due("in one session", x.moreBy(0, 16, 0, 5), more);
            due("not in all hours of a session", x.moreBy(0, 31, 1, 5), 0);
            x.sick(0);
            due("a sick one counts", x.moreBy(0, 31, 0, 10), 10 * more);
            due("another room", x.moreBy(1, 31, 0, 10), 120);
        }
        NurseryPlaces x = Nurseries.withCarers(12);
        due("if there was a thirteenth", x.moreBy(0, 31, 0, 10), 10);
        x = new NurseryPlaces();
        x.room(0, 72, 40, 3);
        x.carer(0, 31, 0, 3);
        x.carer(0, 31, 4, 10);
        due("it fills a gap of one hour", x.moreBy(0, 2, 3, 4), 3);
    }

    private static void moreByDays() {
        CHECK.sentence("Promise 22", "- `days`: a set, 1 to 31");
        int[] days = {0, 1, 31, 32};
        int[] answers = {-2, 6, 30, -2};
        for (int i = 0; i < 4; i++) {
            NurseryPlaces x = new NurseryPlaces();
            x.room(0, 72, 3, 3);
            due("moreBy(0, " + days[i] + ", 0, 10)", x.moreBy(0, days[i], 0, 10), answers[i]);
        }
    }

    private static void moreByNoSuch() {
        CHECK.sentence("Promise 22", "NO_SUCH if there is no such room");
        for (int room : new int[] {-1, 2, 5, Integer.MIN_VALUE, Integer.MAX_VALUE}) {
            unchanged("moreBy(" + room + ", 31, 0, 10)", -1, Nurseries::busy, x -> x.moreBy(room, 31, 0, 10));
        }
        due("the first room", Nurseries.withRooms(5).moreBy(0, 31, 0, 10), 10);
        due("the last room", Nurseries.withRooms(5).moreBy(4, 31, 0, 10), 10);
        due("behind it", Nurseries.withRooms(5).moreBy(5, 31, 0, 10), -1);
    }

    private static void moreByBadValue() {
        CHECK.sentence("Promise 22", "BAD_VALUE if days, from or to is out of range (as for carer()).");
        int[][] bad = {{-1, 0, 10}, {0, 0, 10}, {32, 0, 10}, {31, -1, 5}, {31, 10, 11}, {31, 3, 3}, {31, 3, 2}, {31, 3, 11},
            {Integer.MIN_VALUE, 0, 10}, {Integer.MAX_VALUE, 0, 10}, {31, Integer.MIN_VALUE, 10}, {31, Integer.MAX_VALUE, 10},
            {31, Integer.MAX_VALUE, Integer.MIN_VALUE}, {31, 0, Integer.MIN_VALUE}, {31, 0, Integer.MAX_VALUE}};
        for (int[] b : bad) unchanged("moreBy(0, " + b[0] + ", " + b[1] + ", " + b[2] + ")", -2, Nurseries::busy, x -> x.moreBy(0, b[0], b[1], b[2]));
        NurseryPlaces x = new NurseryPlaces();
        x.room(0, 72, 3, 3);
        due("from 0 to 10", x.moreBy(0, 31, 0, 10), 30);
        due("from 0 to 1", x.moreBy(0, 31, 0, 1), 0);
        due("from 9 to 10", x.moreBy(0, 31, 9, 10), 0);
        x.carer(0, 31, 5, 9);
        due("from 9 to 10 behind another one", x.moreBy(0, 31, 9, 10), 15);
    }

    private static void incomeOnlyWeeks() {
        CHECK.sentence("Promise 23", "Tells what would be paid in the next weeks, if only weeks passed.");
        NurseryPlaces x = Nurseries.withTwoRooms(1);
        x.child(11, 0, 1);
        x.child(20, 0, 2);
        x.child(11, 1, 2);
        x.admit();
        x.child(11, 2, 4);
        due("3 children, one with a sibling", x.income(1), 3000 + 2400 + 3000);
        due("4 weeks", x.income(4), 4 * 8400);
        due("then 2 waits again, and nobody is admitted", x.income(5), 4 * 8400 + 3000 + 2400);
        x.sick(0);
        due("without carer 0 they are sent home in this week", x.income(1), 2400);
        due("not in the next one", x.income(2), 2400 + 8400);
        x.weeks(2);
        due("as much was paid", x.count(8), 10800);
        due("it is not counted again", x.income(1), 8400);
        x = Nurseries.withPlaces(1);
        x.set(3, 1);
        x.child(10, 0, 1 + 2);
        x.admit();
        due("nobody is settled", x.income(52), 0);
        x.visit(0, 1);
        due("a visit that is planned settles behind this week", x.income(3), 2 * 6000);
    }

    private static void incomeRange() {
        CHECK.sentence("Promise 23", "- `weeks`: 1 to 52");
        int[] weeks = {0, 1, 52, 53};
        int[] answers = {-2, 3000, 52 * 3000, -2};
        for (int i = 0; i < 4; i++) {
            NurseryPlaces x = Nurseries.withCarers(1);
            x.child(10, 0, 1);
            x.admit();
            due("income(" + weeks[i] + ")", x.income(weeks[i]), answers[i]);
        }
    }

    private static void incomeBadValue() {
        CHECK.sentence("Promise 23", "BAD_VALUE if weeks is out of range.");
        for (int weeks : new int[] {-1, 0, 53, Integer.MIN_VALUE, Integer.MAX_VALUE}) {
            unchanged("income(" + weeks + ")", -2, Nurseries::busy, x -> x.income(weeks));
        }
    }
}
