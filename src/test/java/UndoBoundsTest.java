import java.util.List;
import java.util.function.Supplier;

/** Promises 28 to 30, and "This is a change." of all others: a test for each sentence that names a boundary. */
public final class UndoBoundsTest {
    private static final Check CHECK = new Check("UndoBoundsTest");

    public static void main(String[] args) {
        setIsAChange();
        roomIsAChange();
        carerIsAChange();
        childIsAChange();
        leaveIsAChange();
        admitIsAChange();
        visitIsAChange();
        swapIsAChange();
        giveBackIsAChange();
        sickIsAChange();
        weeksIsAChange();
        carryOutIsAChange();
        restoreIsAChange();
        everythingAsItWas();
        whoWasPlacedLast();
        undoneForGood();
        exceptPadAndSlots();
        atMostSixStates();
        alsoIfNothingIsDifferent();
        noErrorIsRecorded();
        whatIsNoChange();
        oldestIsDropped();
        ordersRecordNothing();
        undoHowMany();
        undoNotPossible();
        saveEverything();
        saveOverwrites();
        saveSlot();
        saveWeek();
        saveBadValue();
        restoreKeeps();
        restoresEverything();
        restoreSlot();
        restoreWeek();
        restoreBadValue();
        restoreNotPossible();
        CHECK.finish();
    }

    private static void due(String call, int got, int want) {
        CHECK.due(call, got, want);
    }

    private static void unchanged(String call, int answer, Supplier<NurseryPlaces> maker, Unchanged.Call asked) {
        Unchanged.due(CHECK, call, maker, asked, answer);
    }

    private static void same(String what, NurseryPlaces x, NurseryPlaces y) {
        CHECK.that(what, Seen.of(x).equals(Seen.of(y)));
    }

    private static void sameButForTheHistory(String what, NurseryPlaces x, NurseryPlaces y) {
        List<Integer> got = Seen.of(x);
        List<Integer> want = Seen.of(y);
        got.set(13, 0);
        want.set(13, 0);
        CHECK.that(what, got.equals(want));
    }

    /** As busy(), but carer 0 is not sick, and 5 changes can be undone. */
    private static NurseryPlaces withFive() {
        NurseryPlaces x = Nurseries.busy();
        x.undo();
        return x;
    }

    private static void isAChange(String call, int answer, Unchanged.Call change) {
        NurseryPlaces x = withFive();
        NurseryPlaces y = withFive();
        due(call, change.on(x), answer);
        due(call + " is recorded", x.count(13), 6);
        CHECK.that(call + " has changed something", !Seen.of(x).equals(Seen.of(y)));
        x = withFive();
        change.on(x);
        due(call + " is undone", x.undo(), 5);
        y = withFive();
        if (y.count(12) != x.count(12)) y.wipe();
        same("behind undo() all is as before " + call, x, y);
        x = Nurseries.busy();
        change.on(x);
        due(call + " drops the oldest one of 6", x.count(13), 6);
        due(call + " is undone", x.undo(), 5);
        y = Nurseries.busy();
        if (y.count(12) != x.count(12)) y.wipe();
        sameButForTheHistory("behind undo() all is as before " + call, x, y);
        due("the next one", x.undo(), 4);
        due("the sick carer, who was the latest change before " + call, x.ofCarer(0, 4), 0);
    }

    private static void setIsAChange() {
        CHECK.sentence("Promise 2", "This is a change");
        isAChange("set(0, 7)", 3000, x -> x.set(0, 7));
        isAChange("set(4, 0)", 12, x -> x.set(4, 0));
    }

    private static void roomIsAChange() {
        CHECK.sentence("Promise 3", "This is a change");
        isAChange("room(0, 72, 40, 12)", 2, x -> x.room(0, 72, 40, 12));
    }

    private static void carerIsAChange() {
        CHECK.sentence("Promise 4", "This is a change");
        isAChange("carer(1, 31, 0, 10)", 2, x -> x.carer(1, 31, 0, 10));
    }

    private static void childIsAChange() {
        CHECK.sentence("Promise 5", "This is a change");
        isAChange("child(10, 2, 3)", 5, x -> x.child(10, 2, 3));
    }

    private static void leaveIsAChange() {
        CHECK.sentence("Promise 6", "This is a change");
        isAChange("leave(0)", 2, x -> x.leave(0));
        isAChange("leave(2), who makes a visit", 2, x -> x.leave(2));
        isAChange("leave(3), who waits", 3, x -> x.leave(3));
    }

    private static void admitIsAChange() {
        CHECK.sentence("Promise 7", "This is a change");
        NurseryPlaces x = withFive();
        x.undo();
        x.undo();
        x.undo();
        x.child(10, 2, 3);
        due("admit() places 2, 4 and 5", x.admit(), 3);
        due("changes", x.count(13), 4);
        due("undo()", x.undo(), 3);
        NurseryPlaces y = withFive();
        y.undo();
        y.undo();
        y.undo();
        y.child(10, 2, 3);
        same("as before admit()", x, y);
    }

    private static void visitIsAChange() {
        CHECK.sentence("Promise 8", "This is a change");
        NurseryPlaces x = withFive();
        x.undo();
        due("undo() of the visit", x.count(11), 0);
        due("visit(2, 5)", x.visit(2, 5), 1);
        due("changes", x.count(13), 5);
        due("undo()", x.undo(), 4);
        NurseryPlaces y = withFive();
        y.undo();
        same("as before visit()", x, y);
        due("it can be planned again", x.visit(2, 5), 1);
    }

    private static void swapIsAChange() {
        CHECK.sentence("Promise 9", "This is a change");
        isAChange("swap(0, 0, 1, 3)", 1, x -> x.swap(0, 0, 1, 3));
    }

    private static void giveBackIsAChange() {
        CHECK.sentence("Promise 10", "This is a change");
        isAChange("giveBack(0, 0)", 2, x -> x.giveBack(0, 0));
    }

    private static void sickIsAChange() {
        CHECK.sentence("Promise 11", "This is a change");
        for (int carer = 0; carer < 2; carer++) {
            NurseryPlaces x = withFive();
            due("sick(" + carer + ")", x.sick(carer), 1);
            due("changes", x.count(13), 6);
            due("undo()", x.undo(), 5);
            same("as before sick()", x, withFive());
            due("sick again", x.sick(carer), 1);
        }
    }

    private static void weeksIsAChange() {
        CHECK.sentence("Promise 12", "This is a change");
        isAChange("weeks(1)", 3, x -> x.weeks(1));
        isAChange("weeks(52), but one change", 54, x -> x.weeks(52));
    }

    private static void carryOutIsAChange() {
        CHECK.sentence("Promise 27", "This is a change");
        isAChange("carryOut() of three orders", 3, x -> x.carryOut());
    }

    private static void restoreIsAChange() {
        CHECK.sentence("Promise 30", "This is a change");
        isAChange("restore(0)", 2, x -> x.restore(0));
    }

    private static void everythingAsItWas() {
        CHECK.sentence("Promise 28", "Undoes the latest change: everything except the pad, the slots and the history is as it was before it.");
        for (int weeks : new int[] {1, 2, 52}) {
            NurseryPlaces x = withFive();
            x.sick(1);
            x.undo();
            x.weeks(weeks);
            x.undo();
            same("weeks(" + weeks + ") undone", x, withFive());
        }
        NurseryPlaces x = Nurseries.withCarers(2);
        x.child(10, 0, 1);
        x.child(10, 1, 1);
        x.leave(0);
        x.admit();
        x.undo();
        x.undo();
        x.admit();
        x.sick(0);
        x.weeks(1);
        due("0 was placed first, for its leaving was undone", x.ofChild(1, 10), 1);
    }

    private static void whoWasPlacedLast() {
        CHECK.sentence("Promise 28", "is as it was before it.");
        for (int undone = 0; undone < 2; undone++) {
            NurseryPlaces x = new NurseryPlaces();
            x.room(0, 12, 40, 4);
            x.room(12, 72, 40, 2);
            x.carer(0, 31, 0, 10);
            x.carer(1, 31, 0, 10);
            x.carer(1, 31, 0, 10);
            x.set(3, 0);
            x.set(2, 1);
            for (int i = 0; i < 3; i++) x.child(11, 9 - i, 1);
            x.admit();
            x.set(2, 10);
            x.weeks(4);
            x.set(2, 1);
            due("three wait again, and are placed for the second time", x.admit(), 3);
            if (undone == 1) {
                x.set(0, 1);
                x.undo();
            }
            x.child(12, 5, 1);
            x.admit();
            x.sick(2);
            x.weeks(1);
            int[] home = {0, 0, 1, 1};
            for (int i = 0; i < 4; i++) due("3 was placed last, then 2, with " + undone + " undo(): child " + i, x.ofChild(i, 10), home[i]);
        }
    }

    /** What was undone must not shine through in what comes in its place. */
    private static void undoneForGood() {
        CHECK.sentence("Promise 28", "is as it was before it.");
        NurseryPlaces x = Nurseries.withCarers(1);
        x.save(0);
        x.child(10, 15, 1023);
        x.admit();
        x.weeks(1);
        x.sick(0);
        x.weeks(1);
        due("sent home from all sessions", x.ofChild(0, 10), 10);
        x.restore(0);
        x.child(1, 2, 3);
        int[] child = {1, 2, 3, 0, -6, 0, 0, 0, -6, 0, 0, 0, 0};
        for (int what = 0; what < child.length; what++) due("ofChild(0, " + what + ") of one that came instead", x.ofChild(0, what), child[what]);
        x = Nurseries.withCarers(1);
        x.save(0);
        x.carer(0, 31, 0, 10);
        x.sick(1);
        x.restore(0);
        due("only carer 0 is there, and sick", x.sick(0), 1);
        x.restore(0);
        due("carer 1 comes", x.carer(0, 1, 2, 3), 1);
        due("and is not sick", x.ofCarer(1, 4), 0);
        due("sick(0)", x.sick(0), 1);
        due("sick(1)", x.sick(1), 2);
        x = new NurseryPlaces();
        x.room(0, 10, 1, 1);
        x.room(10, 20, 1, 1);
        x.undo();
        x.carer(0, 31, 0, 10);
        x.child(15, 0, 3);
        due("the room of its age is undone", x.wouldGet(0), 0);
        due("so it is not placed", x.admit(), 0);
    }

    private static void exceptPadAndSlots() {
        CHECK.sentence("Promise 28", "everything except the pad, the slots and the history");
        NurseryPlaces x = new NurseryPlaces();
        x.weeks(3);
        Texts.put(x, "a;w2");
        x.save(1);
        x.weeks(1);
        x.save(0);
        due("undo()", x.undo(), 1);
        due("undo()", x.undo(), 0);
        due("the pad stays", x.count(12), 4);
        due("and is what it was", x.carryOut(), 2);
        due("slot 0 stays", x.restore(0), 4);
        due("slot 1 stays", x.restore(1), 3);
        due("undo() of restore()", x.undo(), 2);
        due("the week", x.count(0), 4);
        x.undo();
        due("undo() of carryOut()", x.undo(), 0);
        due("does not bring the text back", x.count(12), 0);
        due("the week", x.count(0), 0);
    }

    private static void atMostSixStates() {
        CHECK.sentence("Promise 28", "A history of at most 6 states is kept");
        for (int changes = 0; changes <= 20; changes++) {
            NurseryPlaces x = new NurseryPlaces();
            for (int i = 0; i < changes; i++) x.weeks(1);
            int kept = Math.min(changes, 6);
            due("behind " + changes + " changes", x.count(13), kept);
            for (int i = kept - 1; i >= 0; i--) {
                due("undo()", x.undo(), i);
                due("the week", x.count(0), changes - kept + i);
            }
            due("one more", x.undo(), -5);
            due("the week", x.count(0), changes - kept);
        }
    }

    private static void alsoIfNothingIsDifferent() {
        CHECK.sentence("Promise 28", "each method that is a change, and returns no error, records the state before it (also if nothing is different then)");
        NurseryPlaces x = new NurseryPlaces();
        x.set(0, 3000);
        due("set() to the same value", x.count(13), 1);
        x.admit();
        due("admit() of nobody", x.count(13), 2);
        x.save(0);
        x.restore(0);
        due("restore() of the same", x.count(13), 3);
        Texts.carryOut(x, "w0");
        due("carryOut() of nothing", x.count(13), 4);
        x.weeks(1);
        for (int i = 4; i >= 0; i--) {
            due("undo()", x.undo(), i);
            due("the week", x.count(0), 0);
        }
    }

    private static void noErrorIsRecorded() {
        CHECK.sentence("Promise 28", "and returns no error, records the state before it");
        Unchanged.Call[] errors = {x -> x.set(0, -1), x -> x.room(0, 0, 1, 1), x -> x.carer(0, 0, 0, 10), x -> x.child(0, 0, 0), x -> x.leave(9),
            x -> x.visit(9, 0), x -> x.swap(0, 0, 0, 0), x -> x.giveBack(9, 0), x -> x.sick(9), x -> x.weeks(0), x -> x.carryOut(), x -> x.restore(1)};
        for (int i = 0; i < errors.length; i++) {
            for (int changes = 5; changes <= 7; changes++) {
                NurseryPlaces x = new NurseryPlaces();
                for (int week = 0; week < changes; week++) x.weeks(1);
                CHECK.that("error " + i, errors[i].on(x) < 0);
                due("error " + i + " is not recorded", x.count(13), Math.min(changes, 6));
                for (int week = 0; week < 6; week++) x.undo();
                due("it drops nothing", x.count(0), Math.max(0, changes - 6));
            }
        }
    }

    private static void whatIsNoChange() {
        CHECK.sentence("Promise 28", "each method that is a change");
        NurseryPlaces x = Nurseries.withCarers(1);
        x.child(10, 0, 1);
        int changes = x.count(13);
        x.put('a');
        x.put(';');
        x.fault();
        x.wipe();
        x.save(0);
        x.ofRoom(0, 0);
        x.ofCarer(0, 0);
        x.ofChild(0, 0);
        x.free(0, 0);
        x.wouldGet(0);
        x.wouldAdmit();
        x.partners(0, 0, 1);
        x.sentHome(0);
        x.moreBy(0, 31, 0, 10);
        x.income(52);
        due("none of them is one", x.count(13), changes);
        due("undo() takes the child back", x.undo(), changes - 1);
        due("no child", x.count(3), 0);
    }

    private static void oldestIsDropped() {
        CHECK.sentence("Promise 28", "when one more is recorded, the oldest one is dropped.");
        NurseryPlaces x = new NurseryPlaces();
        for (int i = 0; i < 6; i++) x.weeks(1);
        NurseryPlaces y = new NurseryPlaces();
        for (int i = 0; i < 7; i++) y.weeks(1);
        for (int i = 0; i < 6; i++) {
            x.undo();
            y.undo();
        }
        due("six changes are undone up to the first", x.count(0), 0);
        due("seven up to the second", y.count(0), 1);
        x.weeks(2);
        x.weeks(2);
        x.undo();
        x.weeks(3);
        due("a change behind undo() takes the place of the one that was undone", x.count(13), 2);
        x.undo();
        due("the week", x.count(0), 2);
        x.undo();
        due("the week", x.count(0), 0);
    }

    private static void ordersRecordNothing() {
        CHECK.sentence("Promise 28", "An order of a text records nothing by itself.");
        NurseryPlaces x = Nurseries.withPlaces(1);
        x.weeks(1);
        int changes = x.count(13);
        Texts.carryOut(x, "c1/1:1;c2/2:2;a;v0@5;s0;w1;w1;w1");
        due("eight orders, one change", x.count(13), changes + 1);
        due("undo()", x.undo(), changes);
        due("the week", x.count(0), 1);
        due("no child", x.count(3), 0);
        due("undo()", x.undo(), changes - 1);
        due("the week", x.count(0), 0);
    }

    private static void undoHowMany() {
        CHECK.sentence("Promise 28", "Returns how many changes can be undone then");
        NurseryPlaces x = Nurseries.busy();
        for (int left = 5; left >= 0; left--) {
            due("undo()", x.undo(), left);
            due("count(13)", x.count(13), left);
        }
        x = new NurseryPlaces();
        x.weeks(1);
        due("one change", x.undo(), 0);
    }

    private static void undoNotPossible() {
        CHECK.sentence("Promise 28", "NOT_POSSIBLE if there is none.");
        unchanged("undo() of a new object", -5, NurseryPlaces::new, x -> x.undo());
        NurseryPlaces x = new NurseryPlaces();
        x.weeks(1);
        due("one change", x.undo(), 0);
        due("no change", x.undo(), -5);
        due("still none", x.undo(), -5);
        due("the week", x.count(0), 0);
        x.weeks(1);
        due("one again", x.undo(), 0);
    }

    private static void saveEverything() {
        CHECK.sentence("Promise 29", "Saves everything except the pad, the history and the slots in a slot");
        NurseryPlaces x = withFive();
        NurseryPlaces y = withFive();
        due("save(1)", x.save(1), 2);
        x.set(0, 1);
        x.sick(1);
        x.leave(0);
        x.room(0, 72, 1, 1);
        x.weeks(30);
        x.put('a');
        due("restore(1)", x.restore(1), 2);
        due("the pad stays", x.count(12), 8);
        due("the history stays, and grows", x.count(13), 6);
        List<Integer> got = Seen.of(x);
        List<Integer> want = Seen.of(y);
        for (int i = 0; i < 19; i++) {
            if (i != 12 && i != 13) due("count(" + i + ")", got.get(i), want.get(i));
        }
        for (int i = 19; i < want.size(); i++) {
            boolean isFault = i == want.size() - 4;
            if (!isFault) due("what is seen at " + i, got.get(i), want.get(i));
        }
        due("slot 0 is not saved in slot 1", x.restore(0), 2);
        due("it has another state", x.count(3), 2);
    }

    private static void saveOverwrites() {
        CHECK.sentence("Promise 29", "and overwrites what was saved there.");
        NurseryPlaces x = new NurseryPlaces();
        x.weeks(1);
        x.save(0);
        x.save(1);
        x.weeks(1);
        due("save(0) once more", x.save(0), 2);
        x.weeks(1);
        due("restore(0)", x.restore(0), 2);
        due("slot 1 is another one", x.restore(1), 1);
        due("save() does not follow later changes", x.restore(0), 2);
    }

    private static void saveSlot() {
        CHECK.sentence("Promise 29", "- `slot`: 0 or 1");
        unchanged("save(-1)", -2, Nurseries::busy, x -> x.save(-1));
        unchanged("save(2)", -2, Nurseries::busy, x -> x.save(2));
        due("save(0)", Nurseries.busy().save(0), 2);
        due("save(1)", Nurseries.busy().save(1), 2);
    }

    private static void saveWeek() {
        CHECK.sentence("Promise 29", "Returns the week");
        NurseryPlaces x = new NurseryPlaces();
        due("week 0", x.save(0), 0);
        x.weeks(52);
        due("week 52", x.save(0), 52);
        due("it is no change", x.count(13), 1);
    }

    private static void saveBadValue() {
        CHECK.sentence("Promise 29", "BAD_VALUE if there is no such slot.");
        for (int slot : new int[] {-6, Integer.MIN_VALUE, Integer.MAX_VALUE}) {
            unchanged("save(" + slot + ")", -2, Nurseries::busy, x -> x.save(slot));
        }
    }

    private static void restoreKeeps() {
        CHECK.sentence("Promise 30", "Restores what was saved last in a slot, which keeps it.");
        NurseryPlaces x = Nurseries.withCarers(2);
        x.child(10, 0, 1);
        x.child(10, 1, 1);
        x.save(0);
        x.admit();
        x.save(1);
        x.restore(0);
        x.leave(0);
        x.admit();
        due("restore(1)", x.restore(1), 0);
        due("both are placed", x.count(5), 3);
        x.leave(0);
        x.weeks(3);
        due("restore(1) once more", x.restore(1), 0);
        due("both are placed", x.count(5), 3);
        x.sick(0);
        x.weeks(1);
        due("1 was placed last", x.ofChild(1, 10), 1);
        due("0 was not", x.ofChild(0, 10), 0);
    }

    /** A small nursery, and one in which each row has other numbers. */
    private static NurseryPlaces one(NurseryPlaces x) {
        x.room(0, 40, 2, 1);
        x.room(40, 50, 3, 2);
        x.carer(0, 31, 0, 10);
        x.carer(1, 7, 0, 5);
        x.set(0, 1000);
        x.set(3, 0);
        x.child(10, 0, 3);
        x.child(45, 1, 21);
        x.admit();
        x.weeks(3);
        x.set(3, 4);
        x.child(70, 5, 1);
        return x;
    }

    private static NurseryPlaces other(NurseryPlaces x) {
        x.room(5, 72, 9, 4);
        x.room(1, 2, 4, 3);
        x.carer(1, 30, 1, 9);
        x.carer(0, 31, 0, 10);
        for (int setting = 0; setting < 5; setting++) x.set(setting, 7 - setting);
        x.weeks(2);
        x.child(60, 9, 1023);
        x.child(61, 8, 31);
        x.child(62, 7, 5);
        x.admit();
        x.visit(0, 9);
        x.sick(1);
        return x;
    }

    private static void restoresEverything() {
        CHECK.sentence("Promise 30", "Restores what was saved last in a slot");
        NurseryPlaces x = new NurseryPlaces();
        x.save(1);
        one(x);
        x.save(0);
        x.restore(1);
        other(x);
        x.save(1);
        x.restore(0);
        sameButForTheHistory("what slot 0 keeps, over the other", x, one(new NurseryPlaces()));
        x = new NurseryPlaces();
        x.save(0);
        one(x);
        x.save(1);
        x.restore(0);
        other(x);
        x.save(0);
        x.restore(1);
        x.restore(0);
        sameButForTheHistory("the other, over what slot 1 keeps", x, other(new NurseryPlaces()));
        x.undo();
        sameButForTheHistory("undo() brings back what slot 1 keeps", x, one(new NurseryPlaces()));
        x.weeks(9);
        x.undo();
        x.weeks(10);
        NurseryPlaces y = one(new NurseryPlaces());
        y.weeks(10);
        sameButForTheHistory("and weeks pass as they would have", x, y);
    }

    private static void restoreSlot() {
        CHECK.sentence("Promise 30", "- `slot`: 0 or 1");
        unchanged("restore(-1)", -2, Nurseries::busy, x -> x.restore(-1));
        unchanged("restore(2)", -2, Nurseries::busy, x -> x.restore(2));
        for (int slot = 0; slot < 2; slot++) {
            NurseryPlaces x = Nurseries.busy();
            x.save(slot);
            x.weeks(1);
            due("restore(" + slot + ")", x.restore(slot), 2);
        }
    }

    private static void restoreWeek() {
        CHECK.sentence("Promise 30", "Returns the week then");
        NurseryPlaces x = new NurseryPlaces();
        x.save(0);
        x.weeks(9);
        x.save(1);
        x.weeks(9);
        due("week 0", x.restore(0), 0);
        due("week 9", x.restore(1), 9);
        due("count(0)", x.count(0), 9);
    }

    private static void restoreBadValue() {
        CHECK.sentence("Promise 30", "BAD_VALUE if there is no such slot");
        for (int slot : new int[] {-6, Integer.MIN_VALUE, Integer.MAX_VALUE}) {
            unchanged("restore(" + slot + ")", -2, Nurseries::busy, x -> x.restore(slot));
        }
        due("also if nothing was saved at all", new NurseryPlaces().restore(2), -2);
    }

    private static void restoreNotPossible() {
        CHECK.sentence("Promise 30", "NOT_POSSIBLE if nothing was saved in it.");
        unchanged("slot 1, though slot 0 is saved", -5, Nurseries::busy, x -> x.restore(1));
        unchanged("slot 0 of a new object", -5, NurseryPlaces::new, x -> x.restore(0));
        unchanged("slot 1 of a new object", -5, NurseryPlaces::new, x -> x.restore(1));
        NurseryPlaces x = new NurseryPlaces();
        x.save(1);
        due("slot 1 was saved", x.restore(1), 0);
        due("slot 0 was not", x.restore(0), -5);
    }
}
