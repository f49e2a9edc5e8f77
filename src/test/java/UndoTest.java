/** Promises 28 to 30: undo, save, restore. */
public final class UndoTest {
    private static final Check CHECK = new Check("UndoTest");

    public static void main(String[] args) {
        everyChange();
        visits();
        errorsAreNoChanges();
        sixStates();
        sixStatesAndAnError();
        undoBringsAllBack();
        padAndSlotsStay();
        saveAndRestore();
        slotsAreTwo();
        restoreOverAnother();
        rowsOfUndoneCarers();
        rowsOfUndoneChildren();
        CHECK.finish();
    }

    private static void due(String call, int got, int want) {
        CHECK.due(call, got, want);
    }

    /** Two settled children and one that is not, visits, a sick carer, some weeks and fees. */
    private static NurseryPlaces nursery() {
        NurseryPlaces x = new NurseryPlaces();
        x.room(0, 30, 3, 3);
        x.room(30, 72, 3, 3);
        x.carer(0, 31, 0, 10);
        x.carer(1, 31, 0, 10);
        x.set(3, 0);
        x.child(10, 0, 7);
        x.child(40, 1, 56);
        x.admit();
        x.weeks(2);
        x.set(3, 2);
        x.child(10, 2, 7);
        x.admit();
        x.visit(2, 9);
        x.child(10, 3, 6);
        x.sick(0);
        return x;
    }

    private static int[] seen(NurseryPlaces x) {
        int[] all = new int[19 + 2 * 40 + 3 * 5 + 6 * 13];
        int at = 0;
        for (int what = 0; what < 19; what++) all[at++] = what == 12 || what == 13 ? 0 : x.count(what);
        for (int room = 0; room < 2; room++) for (int what = 0; what < 40; what++) all[at++] = x.ofRoom(room, what);
        for (int carer = 0; carer < 3; carer++) for (int what = 0; what < 5; what++) all[at++] = x.ofCarer(carer, what);
        for (int child = 0; child < 6; child++) for (int what = 0; what < 13; what++) all[at++] = x.ofChild(child, what);
        return all;
    }

    private static void same(String what, int[] got, int[] want) {
        for (int i = 0; i < want.length; i++) due(what + ", number " + i, got[i], want[i]);
    }

    private static int change(NurseryPlaces x, int kind) {
        switch (kind) {
            case 0: return x.set(0, 3000);
            case 1: return x.room(0, 72, 1, 1);
            case 2: return x.carer(0, 31, 0, 10);
            case 3: return x.child(5, 5, 5);
            case 4: return x.leave(2);
            case 5: return x.admit();
            case 6: return x.giveBack(0, 0);
            case 7: return x.swap(0, 0, 1, 3);
            case 8: return x.giveBack(1, 5);
            case 9: return x.sick(1);
            case 10: return x.weeks(9);
            case 11: return Texts.carryOut(x, "c1/2:3;a;s1;w7");
            case 12: return Texts.carryOut(x, "w0");
            default: return x.weeks(52);
        }
    }

    private static void everyChange() {
        for (int kind = 0; kind <= 13; kind++) {
            NurseryPlaces x = nursery();
            x.undo();
            x.undo();
            int before = x.count(13);
            int[] seen = seen(x);
            CHECK.that("change " + kind + " is done", change(x, kind) >= 0);
            due("change " + kind + " is recorded", x.count(13), before + 1);
            due("change " + kind + " is undone", x.undo(), before);
            same("as before change " + kind, seen(x), seen);
            x = nursery();
            seen = seen(x);
            change(x, kind);
            due("change " + kind + " drops the oldest state", x.count(13), 6);
            due("change " + kind + " is undone", x.undo(), 5);
            same("as before change " + kind, seen(x), seen);
        }
    }

    private static void visits() {
        NurseryPlaces x = nursery();
        due("child 3 is placed", x.admit(), 1);
        int[] seen = seen(x);
        due("visit", x.visit(3, 9), 2);
        due("undo the visit", x.undo(), 5);
        same("as before the visit", seen(x), seen);
        x.admit();
        due("a change that changes nothing is recorded", x.count(13), 6);
        due("undo it", x.undo(), 5);
        same("as before", seen(x), seen);
    }

    private static void errorsAreNoChanges() {
        NurseryPlaces x = new NurseryPlaces();
        x.room(0, 72, 5, 5);
        x.set(9, 9);
        x.room(-1, 0, 0, 0);
        x.carer(5, 0, 0, 0);
        x.child(-1, 0, 0);
        x.leave(0);
        x.visit(0, 0);
        x.swap(0, 0, 0, 0);
        x.giveBack(0, 0);
        x.sick(0);
        x.weeks(0);
        x.carryOut();
        x.restore(0);
        x.restore(2);
        due("one change", x.count(13), 1);
        x.save(0);
        x.wipe();
        x.put('a');
        x.fault();
        x.income(5);
        x.wouldAdmit();
        due("one change", x.count(13), 1);
        due("undo", x.undo(), 0);
        due("no room", x.count(1), 0);
        due("undo is possible no more", x.undo(), -5);
        due("undo is possible no more", x.undo(), -5);
    }

    private static void sixStates() {
        NurseryPlaces x = new NurseryPlaces();
        for (int i = 1; i <= 9; i++) {
            x.weeks(1);
            due("changes that can be undone", x.count(13), Math.min(i, 6));
        }
        for (int i = 5; i >= 0; i--) {
            due("undo", x.undo(), i);
            due("the week", x.count(0), 3 + i);
        }
        due("the oldest ones were dropped", x.undo(), -5);
        due("the week", x.count(0), 3);
        x.weeks(4);
        due("undo", x.undo(), 0);
        due("the week", x.count(0), 3);
    }

    private static void sixStatesAndAnError() {
        NurseryPlaces x = new NurseryPlaces();
        for (int i = 0; i < 8; i++) x.weeks(1);
        due("an error", x.weeks(0), -2);
        due("an error", x.restore(0), -5);
        due("an error", x.sick(0), -1);
        for (int i = 5; i >= 0; i--) x.undo();
        due("errors drop no state", x.count(0), 2);
    }

    private static void undoBringsAllBack() {
        NurseryPlaces x = nursery();
        int[] seen = seen(x);
        x.set(1, 77);
        x.leave(0);
        x.weeks(30);
        x.carer(0, 1, 1, 2);
        x.child(1, 1, 1);
        due("undo", x.undo(), 5);
        x.undo();
        x.undo();
        x.undo();
        due("undo", x.undo(), 1);
        same("as before five changes", seen(x), seen);
        due("a child in the row of one that was undone", x.child(3, 4, 5), 4);
        int[] fresh = {3, 4, 5, 0, -6, 0, 0, 0, -6, 0, 0, 0, 2};
        for (int what = 0; what < fresh.length; what++) due("fresh: ofChild(4, " + what + ")", x.ofChild(4, what), fresh[what]);
        x.sick(1);
        x.undo();
        x.undo();
        x.carer(1, 1, 0, 5);
        due("a carer in the row of one that was undone", x.ofCarer(2, 4), 0);
    }

    private static void padAndSlotsStay() {
        NurseryPlaces x = new NurseryPlaces();
        x.weeks(5);
        x.put('a');
        due("save", x.save(1), 5);
        x.weeks(1);
        x.put(';');
        x.undo();
        due("the pad stays", x.count(12), 2);
        x.undo();
        due("week 0", x.count(0), 0);
        due("the slot stays", x.restore(1), 5);
        due("the pad stays", x.wipe(), 2);
    }

    private static void saveAndRestore() {
        NurseryPlaces x = nursery();
        due("save(-1)", x.save(-1), -2);
        due("save(2)", x.save(2), -2);
        due("restore(-1)", x.restore(-1), -2);
        due("restore(2)", x.restore(2), -2);
        due("nothing was saved", x.restore(0), -5);
        int[] seen = seen(x);
        int history = x.count(13);
        due("save", x.save(0), 2);
        due("it is no change", x.count(13), history);
        x.set(0, 1);
        x.sick(1);
        x.weeks(20);
        x.child(1, 1, 1);
        int[] later = seen(x);
        x.undo();
        x.undo();
        due("four changes are left", x.count(13), 4);
        x.weeks(20);
        x.child(1, 1, 1);
        due("restore", x.restore(0), 2);
        same("as it was saved", seen(x), seen);
        due("it is a change", x.count(13), 6);
        x.undo();
        same("undone", seen(x), later);
        x.weeks(1);
        due("the slot keeps it", x.restore(0), 2);
        x.leave(0);
        due("a change behind it does not reach the slot", x.restore(0), 2);
        same("as it was saved", seen(x), seen);
    }

    /** All rows of the state that is restored differ from those that stood there. */
    private static void restoreOverAnother() {
        NurseryPlaces x = new NurseryPlaces();
        x.save(1);
        x.room(0, 40, 2, 1);
        x.carer(0, 31, 0, 10);
        x.carer(0, 31, 0, 10);
        x.set(3, 0);
        x.set(2, 1);
        x.set(4, 5);
        x.child(70, 9, 2);
        x.child(10, 0, 1);
        x.child(10, 1, 1);
        x.admit();
        x.weeks(2);
        x.save(0);
        int[] seen = seen(x);
        x.restore(1);
        due("an empty one", x.count(1) + x.count(2) + x.count(3), 0);
        x.room(50, 72, 9, 9);
        x.room(1, 2, 3, 4);
        x.carer(1, 16, 3, 4);
        x.carer(1, 8, 2, 5);
        x.weeks(7);
        for (int i = 0; i < 3; i++) x.child(60, 15, 1023);
        x.child(60, 14, 1000);
        x.admit();
        x.sick(0);
        x.sick(1);
        due("restore", x.restore(0), 2);
        same("as it was saved", seen(x), seen);
        x.child(10, 0, 1);
        x.sick(1);
        x.weeks(1);
        due("2 was placed last", x.ofChild(2, 10), 1);
        due("1 came", x.ofChild(1, 9), 3);
        due("0 came in week 0, and is patient", x.ofChild(0, 3), 0);
        x.leave(1);
        due("3 is placed behind 2", x.admit(), 1);
        x.sick(1);
        x.weeks(1);
        due("3 was placed last", x.ofChild(3, 10), 1);
        x.weeks(1);
        due("0 is patient", x.ofChild(0, 3), 0);
        x.weeks(1);
        due("0 is not patient any more", x.ofChild(0, 3), 2);
    }

    private static void rowsOfUndoneCarers() {
        NurseryPlaces x = new NurseryPlaces();
        x.room(0, 72, 1, 1);
        x.save(0);
        x.carer(0, 31, 0, 10);
        x.sick(0);
        x.restore(0);
        x.carer(0, 31, 0, 10);
        due("a fresh carer is not sick", x.ofCarer(0, 4), 0);
        due("sick", x.sick(0), 1);
    }

    private static void rowsOfUndoneChildren() {
        NurseryPlaces x = new NurseryPlaces();
        x.room(0, 72, 1, 1);
        x.carer(0, 31, 0, 10);
        x.set(3, 0);
        x.save(0);
        x.child(10, 0, 3);
        x.admit();
        x.weeks(1);
        x.sick(0);
        x.weeks(1);
        due("it paid", x.ofChild(0, 11), 6000);
        x.restore(0);
        x.child(10, 0, 3);
        for (int what = 9; what <= 12; what++) due("a fresh child: ofChild(0, " + what + ")", x.ofChild(0, what), 0);
        due("no visits", x.ofChild(0, 7), 0);
    }

    private static void slotsAreTwo() {
        NurseryPlaces x = new NurseryPlaces();
        x.weeks(1);
        x.save(0);
        x.weeks(1);
        due("nothing was saved in slot 1", x.restore(1), -5);
        x.save(1);
        x.weeks(1);
        due("slot 0", x.restore(0), 1);
        due("slot 1", x.restore(1), 2);
        x.weeks(5);
        due("overwrite", x.save(0), 7);
        due("slot 1", x.restore(1), 2);
        due("slot 0", x.restore(0), 7);
    }
}
