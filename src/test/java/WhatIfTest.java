/** Promises 18 to 23: wouldGet, wouldAdmit, partners, sentHome, moreBy, income. */
public final class WhatIfTest {
    private static final Check CHECK = new Check("WhatIfTest");

    public static void main(String[] args) {
        wouldGet();
        wouldAdmit();
        partners();
        sentHome();
        moreBy();
        income();
        CHECK.finish();
    }

    private static void due(String call, int got, int want) {
        CHECK.due(call, got, want);
    }

    private static void wouldGet() {
        NurseryPlaces x = new NurseryPlaces();
        x.room(0, 72, 1, 1);
        x.carer(0, 31, 0, 5);
        x.child(10, 0, 31);
        x.child(10, 0, 1 + 4 + 16 + 64);
        x.child(72, 0, 31);
        due("no such child", x.wouldGet(3), -1);
        due("no such child", x.wouldGet(-1), -1);
        due("0 would get the mornings", x.wouldGet(0), 1 + 4 + 16);
        due("so would 1, if it was the only one", x.wouldGet(1), 1 + 4 + 16 + 64);
        due("no room for 72 months", x.wouldGet(2), 0);
        due("nothing has changed", x.count(4), 7);
        x.admit();
        due("a placed child", x.wouldGet(0), -5);
        due("one session is too few", x.wouldGet(1), 0);
        x.set(2, 1);
        due("not with LEAST 1", x.wouldGet(1), 64);
        x.leave(1);
        due("a child that is gone", x.wouldGet(1), -5);
    }

    private static void wouldAdmit() {
        NurseryPlaces x = new NurseryPlaces();
        due("nobody", x.wouldAdmit(), 0);
        x.room(0, 72, 2, 2);
        x.carer(0, 31, 0, 10);
        x.child(10, 0, 3);
        x.admit();
        x.child(10, 1, 3);
        x.child(10, 0, 3);
        x.child(10, 2, 12);
        int history = x.count(13);
        due("the sibling, and who wishes another day", x.wouldAdmit(), 4 + 8);
        due("nobody is placed by this", x.count(5), 1);
        due("nor is it a change", x.count(13), history);
        due("admit", x.admit(), 2);
        due("the same ones", x.count(5), 1 + 4 + 8);
    }

    private static void partners() {
        NurseryPlaces x = new NurseryPlaces();
        x.room(0, 20, 2, 2);
        x.room(20, 72, 1, 1);
        x.carer(0, 31, 0, 10);
        x.carer(1, 30, 0, 10);
        x.child(10, 0, 1 + 4);
        x.child(10, 1, 16 + 32);
        x.child(10, 2, 1 + 16);
        x.child(30, 3, 16 + 64);
        x.child(10, 4, 16 + 32);
        x.child(10, 5, 16 + 32);
        x.admit();
        due("4 and 5 wait", x.count(4), 48);
        due("with 1 for 4; 2 has 0 already; the room of 3 has no day 0", x.partners(0, 0, 4), 2);
        due("for 6 with nobody: no place on day 0", x.partners(0, 0, 6), 0);
        due("2 for 4: a place of room 0 is not free, but 1 and 2 share it", x.partners(0, 2, 4), 2 + 4);
        x.leave(1);
        due("3 as well, when a place is free", x.partners(0, 2, 4), 4 + 8);
        due("2 with 0", x.partners(2, 4, 2), 1);
        due("the same one", x.partners(0, 0, 0), 0);
        due("a session that it has not", x.partners(0, 1, 4), 0);
        due("a session that it has", x.partners(0, 0, 2), 0);
        due("a waiting child", x.partners(4, 4, 0), 0);
        due("a gone child", x.partners(1, 4, 0), 0);
        due("no such child", x.partners(6, 0, 4), -1);
        due("no such child", x.partners(-1, 0, 4), -1);
        due("no such session", x.partners(0, 10, 4), -1);
        due("no such session", x.partners(0, -1, 4), -1);
        due("no such other session", x.partners(0, 0, 10), -1);
        due("no such other session", x.partners(0, 0, -1), -1);
        due("nothing has changed", x.ofChild(0, 5), 5);
    }

    private static void sentHome() {
        NurseryPlaces x = new NurseryPlaces();
        x.room(0, 72, 4, 1);
        x.set(3, 0);
        x.carer(0, 31, 0, 10);
        x.carer(0, 31, 0, 5);
        x.carer(0, 1, 0, 10);
        x.child(10, 0, 3);
        x.child(10, 1, 1 + 4);
        x.admit();
        due("as things are", x.sentHome(-6), 0);
        due("without carer 0: the afternoon has one left", x.sentHome(0), 0);
        x.child(10, 2, 1 + 2 + 4);
        x.admit();
        due("without carer 0: 1 in each of the sessions 0 to 2", x.sentHome(0), 3);
        due("without carer 1", x.sentHome(1), 2);
        due("without carer 2", x.sentHome(2), 2);
        due("no such carer", x.sentHome(3), -1);
        due("no such carer", x.sentHome(-1), -1);
        due("other codes are no carers", x.sentHome(-5), -1);
        x.sick(2);
        due("as things are", x.sentHome(-6), 2);
        due("who is sick already", x.sentHome(2), 2);
        due("another one too", x.sentHome(0), 2 + 2 + 1);
        due("nothing has changed", x.ofCarer(0, 4), 0);
        x.set(3, 1);
        x.carer(0, 31, 5, 10);
        x.child(10, 3, 128 + 32);
        x.admit();
        x.visit(3, 7);
        due("visits count, unsettled ones without a visit do not", x.sentHome(-6), 1);
        x.sick(3);
        x.sick(1);
        due("all carers", x.sentHome(0), 3 + 2 + 2 + 1);
        x.weeks(1);
        due("in the new week nobody is sick", x.sentHome(-6), 0);
    }

    private static void moreBy() {
        NurseryPlaces x = new NurseryPlaces();
        due("no room", x.moreBy(0, 31, 0, 10), -1);
        x.room(0, 72, 5, 3);
        due("no such room", x.moreBy(1, 31, 0, 10), -1);
        due("no such room goes first", x.moreBy(-1, 0, 0, 10), -1);
        int[][] bad = {{0, 0, 10}, {32, 0, 10}, {31, -1, 5}, {31, 10, 11}, {31, 5, 5}, {31, 0, 11}, {31, 6, 5}};
        for (int[] b : bad) due("moreBy, bad", x.moreBy(0, b[0], b[1], b[2]), -2);
        due("the first carer", x.moreBy(0, 31, 0, 10), 30);
        due("a day", x.moreBy(0, 16, 0, 10), 6);
        due("a half day", x.moreBy(0, 16, 5, 10), 3);
        due("an hour too few", x.moreBy(0, 16, 6, 10), 0);
        x.carer(0, 31, 0, 9);
        due("up to the capacity in the mornings", x.moreBy(0, 31, 0, 5), 10);
        due("the last hour has nobody else", x.moreBy(0, 31, 9, 10), 15);
        x.sick(0);
        due("a sick carer counts", x.moreBy(0, 31, 0, 5), 10);
        for (int i = 1; i < 12; i++) x.carer(0, 1, 0, 1);
        due("12 carers", x.count(2), 12);
        due("one more than there can be", x.moreBy(0, 1, 0, 5), 2);
        due("no carer came", x.count(2), 12);
        due("nor room", x.ofRoom(0, 4), 4095);
    }

    private static void income() {
        NurseryPlaces x = new NurseryPlaces();
        x.room(0, 12, 4, 2);
        x.carer(0, 31, 0, 10);
        x.carer(0, 31, 0, 10);
        x.set(3, 0);
        x.child(10, 0, 3);
        x.child(11, 0, 3);
        x.child(11, 1, 3);
        x.admit();
        due("income(0)", x.income(0), -2);
        due("income(53)", x.income(53), -2);
        due("income(-1)", x.income(-1), -2);
        due("a week", x.income(1), 6000 + 4800 + 6000);
        due("four weeks", x.income(4), 4 * 16800);
        due("then 1 and 2 are gone", x.income(5), 4 * 16800 + 6000);
        due("then 0, too", x.income(52), 4 * 16800 + 4 * 6000);
        x.sick(0);
        due("2 is sent home", x.income(1), 6000 + 4800);
        due("but only in this week", x.income(2), 6000 + 4800 + 16800);
        due("nothing has changed", x.count(0), 0);
        due("nothing was paid", x.count(8), 0);
        due("carer 0 is sick", x.ofCarer(0, 4), 1);
        x.weeks(1);
        due("what was paid before does not count", x.income(1), 16800);
        x.set(3, 1);
        x.child(0, 5, 12);
        x.admit();
        x.visit(3, 2);
        due("a visit that is planned settles", x.income(2), 2 * 16800 + 6000);
        x.child(0, 6, 12);
        due("nobody is admitted in it, and 3 pays until it is 12 months old", x.income(52), 3 * 16800 + 4 * 6000 + 46 * 6000);
    }
}
