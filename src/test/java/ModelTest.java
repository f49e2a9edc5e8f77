import java.util.Random;

/** Runs of calls drawn from fixed seeds, answered by the class and by PlainNursery. */
public final class ModelTest {
    private static final int RUNS = 1200;
    private static final int CALLS = 200;

    private final Check check;
    private final Random random;
    private final int seed;
    private final NurseryPlaces got = new NurseryPlaces();
    private final PlainNursery want = new PlainNursery();
    private int step;

    private ModelTest(Check check, int seed) {
        this.check = check;
        this.seed = seed;
        random = new Random(seed);
    }

    public static void main(String[] args) {
        Check check = new Check("ModelTest");
        for (int seed = 0; seed < RUNS && check.isAllRight(); seed++) new ModelTest(check, seed).run();
        check.finish();
    }

    private void run() {
        if (random.nextInt(8) != 0) setUp();
        for (step = 0; step < CALLS && check.isAllRight(); step++) {
            if (random.nextInt(3) == 0) ask();
            else change();
            if (step % 5 == 0 || step == CALLS - 1) compareAll();
        }
    }

    private void due(String call, int answer, int due) {
        check.due("run " + seed + ", step " + step + ": " + call, answer, due);
    }

    private void setUp() {
        int bands = 1 + random.nextInt(4);
        for (int i = 0; i < bands; i++) {
            int from = random.nextInt(60);
            room(from, from + 1 + random.nextInt(12), 1 + random.nextInt(8), 1 + random.nextInt(4));
        }
        room(0, 72, 1 + random.nextInt(12), 1 + random.nextInt(6));
        for (int i = 0; i < 3 + random.nextInt(8); i++) {
            boolean isWhole = random.nextInt(3) > 0;
            carer(random.nextInt(bands + 1), isWhole ? 31 : 1 + random.nextInt(31), isWhole ? 0 : random.nextInt(4), isWhole ? 10 : 6 + random.nextInt(5));
        }
        for (int i = 0; i < random.nextInt(16); i++) child(random.nextInt(73), random.nextInt(5), 1 + random.nextInt(1023));
        if (random.nextBoolean()) set(3, random.nextInt(3));
        if (random.nextBoolean()) set(2, 1);
    }

    private int around(int from, int to) {
        int kind = random.nextInt(24);
        if (kind == 0) return from - 1;
        if (kind == 1) return to + 1;
        if (kind == 2) return random.nextInt();
        if (kind == 3) return -random.nextInt(8);
        return from + random.nextInt(to - from + 1);
    }

    private int someChild() {
        return around(0, Math.max(0, want.count(3) - 1));
    }

    private int someCarer() {
        return around(0, Math.max(0, want.count(2) - 1));
    }

    private int someRoom() {
        return around(0, Math.max(0, want.count(1) - 1));
    }

    private int ownSession(int child) {
        int sessions = want.ofChild(child, 5);
        if (sessions <= 0 || random.nextInt(6) == 0) return around(0, 9);
        int session = random.nextInt(10);
        while ((sessions & 1 << session) == 0) session = (session + 1) % 10;
        return session;
    }

    private void change() {
        int child = someChild();
        int other = someChild();
        switch (random.nextInt(24)) {
            case 0 -> set(around(0, 4), around(0, new int[] {10000, 100, 4, 3, 20}[random.nextInt(5)]));
            case 1 -> room(around(0, 71), around(1, 72), around(1, 40), around(1, 12));
            case 2 -> carer(someRoom(), around(1, 31), around(0, 9), around(1, 10));
            case 3, 4, 5 -> child(around(0, 72), around(0, random.nextBoolean() ? 15 : 3), around(1, 1023));
            case 6 -> due("leave(" + child + ")", got.leave(child), want.leave(child));
            case 7, 8, 9 -> due("admit()", got.admit(), want.admit());
            case 10, 11, 12, 13 -> visit(child, random.nextBoolean() ? ownSession(child) : around(0, 9));
            case 14, 15 -> swap(child, ownSession(child), other, ownSession(other));
            case 16 -> giveBack(child, ownSession(child));
            case 17 -> sick(someCarer());
            case 18, 19 -> weeks(random.nextInt(5) == 0 ? around(1, 52) : around(1, 3));
            case 20 -> due("undo()", got.undo(), want.undo());
            case 21 -> save(around(0, 1));
            case 22 -> restore(around(0, 1));
            default -> text();
        }
    }

    private void set(int setting, int value) {
        due("set(" + setting + ", " + value + ")", got.set(setting, value), want.set(setting, value));
    }

    private void room(int from, int to, int capacity, int ratio) {
        due("room(" + from + ", " + to + ", " + capacity + ", " + ratio + ")",
            got.room(from, to, capacity, ratio), want.room(from, to, capacity, ratio));
    }

    private void carer(int room, int days, int from, int to) {
        due("carer(" + room + ", " + days + ", " + from + ", " + to + ")", got.carer(room, days, from, to), want.carer(room, days, from, to));
    }

    private void child(int age, int family, int wish) {
        due("child(" + age + ", " + family + ", " + wish + ")", got.child(age, family, wish), want.child(age, family, wish));
    }

    private void visit(int child, int session) {
        due("visit(" + child + ", " + session + ")", got.visit(child, session), want.visit(child, session));
    }

    private void swap(int child, int session, int other, int otherSession) {
        due("swap(" + child + ", " + session + ", " + other + ", " + otherSession + ")",
            got.swap(child, session, other, otherSession), want.swap(child, session, other, otherSession));
    }

    private void giveBack(int child, int session) {
        due("giveBack(" + child + ", " + session + ")", got.giveBack(child, session), want.giveBack(child, session));
    }

    private void sick(int carer) {
        due("sick(" + carer + ")", got.sick(carer), want.sick(carer));
    }

    private void weeks(int weeks) {
        due("weeks(" + weeks + ")", got.weeks(weeks), want.weeks(weeks));
    }

    private void save(int slot) {
        due("save(" + slot + ")", got.save(slot), want.save(slot));
    }

    private void restore(int slot) {
        due("restore(" + slot + ")", got.restore(slot), want.restore(slot));
    }

    private void text() {
        StringBuilder text = new StringBuilder();
        int orders = random.nextInt(8);
        for (int i = 0; i < orders; i++) {
            if (i > 0) text.append(';');
            order(text);
        }
        if (random.nextInt(3) == 0) spoil(text);
        String whole = text.toString();
        for (int i = 0; i < whole.length(); i += 8) put(Texts.pack(whole.substring(i, Math.min(i + 8, whole.length()))));
        due("fault() of " + whole, got.fault(), want.fault());
        if (random.nextInt(10) == 0) return;
        due("carryOut() of " + whole, got.carryOut(), want.carryOut());
        due("wipe()", got.wipe(), want.wipe());
    }

    private void order(StringBuilder text) {
        int child = random.nextInt(24);
        int other = random.nextInt(24);
        switch (random.nextInt(7)) {
            case 0, 1 -> text.append('c').append(random.nextInt(74)).append('/').append(random.nextInt(17)).append(':').append(random.nextInt(1024));
            case 2 -> text.append('v').append(child).append('@').append(random.nextInt(10));
            case 3 -> text.append('x').append(child).append('@').append(random.nextInt(10)).append('=').append(other).append('@').append(random.nextInt(10));
            case 4 -> text.append('s').append(random.nextInt(12));
            case 5 -> text.append('a');
            default -> text.append('w').append(random.nextInt(9) == 0 ? random.nextInt(1024) : 1 + random.nextInt(6));
        }
    }

    private void spoil(StringBuilder text) {
        String signs = "cvxsaw;@=/:0123456789!~A";
        int at = random.nextInt(text.length() + 1);
        char sign = signs.charAt(random.nextInt(signs.length()));
        switch (random.nextInt(3)) {
            case 0 -> text.insert(at, sign);
            case 1 -> text.setLength(at);
            default -> {
                if (at < text.length()) text.setCharAt(at, sign);
            }
        }
    }

    private void put(long characters) {
        due("put(" + characters + ")", got.put(characters), want.put(characters));
    }

    private void ask() {
        int child = someChild();
        int session = around(0, 9);
        int room = someRoom();
        int weeks = around(1, 52);
        int carer = random.nextInt(4) == 0 ? -6 : someCarer();
        int days = around(1, 31);
        int from = around(0, 9);
        int to = around(1, 10);
        long raw = random.nextLong() >>> 8 * random.nextInt(8);
        switch (random.nextInt(5)) {
            case 0 -> due("income(" + weeks + ")", got.income(weeks), want.income(weeks));
            case 1 -> due("moreBy(" + room + ", " + days + ", " + from + ", " + to + ")", got.moreBy(room, days, from, to), want.moreBy(room, days, from, to));
            case 2 -> due("sentHome(" + carer + ")", got.sentHome(carer), want.sentHome(carer));
            case 3 -> {
                int own = ownSession(child);
                due("partners(" + child + ", " + own + ", " + session + ")", got.partners(child, own, session), want.partners(child, own, session));
            }
            default -> put(raw);
        }
    }

    private void compareAll() {
        for (int what = -1; what <= 19; what++) due("count(" + what + ")", got.count(what), want.count(what));
        for (int room = -1; room <= want.count(1); room++) {
            for (int what = -1; what <= 40; what++) due("ofRoom(" + room + ", " + what + ")", got.ofRoom(room, what), want.ofRoom(room, what));
            for (int session = -1; session <= 10; session++) due("free(" + room + ", " + session + ")", got.free(room, session), want.free(room, session));
        }
        for (int carer = -1; carer <= want.count(2); carer++) {
            for (int what = -1; what <= 5; what++) due("ofCarer(" + carer + ", " + what + ")", got.ofCarer(carer, what), want.ofCarer(carer, what));
            due("sentHome(" + carer + ")", got.sentHome(carer), want.sentHome(carer));
        }
        for (int child = -1; child <= want.count(3); child++) {
            for (int what = -1; what <= 13; what++) due("ofChild(" + child + ", " + what + ")", got.ofChild(child, what), want.ofChild(child, what));
            due("wouldGet(" + child + ")", got.wouldGet(child), want.wouldGet(child));
        }
        due("wouldAdmit()", got.wouldAdmit(), want.wouldAdmit());
        due("fault()", got.fault(), want.fault());
    }
}
