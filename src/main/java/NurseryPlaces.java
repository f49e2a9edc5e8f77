/** Places in a nursery, as ../shared/DOC.md tells; no method ever throws. */
public final class NurseryPlaces {
    public static final int NO_SUCH = -1, BAD_VALUE = -2, BAD_TEXT = -3, TOO_MANY = -4, NOT_POSSIBLE = -5, NONE = -6;
    public static final int PRICE = 0, DISCOUNT = 1, LEAST = 2, VISITS = 3, PATIENCE = 4;
    public static final int WAITING = 0, PLACED = 1, GONE = 2;

    private static final int MAX_ROOMS = 5, MAX_CARERS = 12, MAX_CHILDREN = 24;
    private static final int MAX_AGE = 72, MAX_CAPACITY = 40, MAX_RATIO = 12, MAX_FAMILY = 15;
    private static final int SESSIONS = 10, ALL_SESSIONS = 1023;
    private static final int ALL_DAYS = 31, HOURS_OF_DAY = 10, HOURS_OF_SESSION = 5;
    private static final int MAX_WEEKS = 52, WEEKS_OF_MONTH = 4;
    private static final int SETTINGS = 5, SLOTS = 2, MAX_UNDO = 6;
    private static final int MAX_PAD = 80, MAX_NUMBER = 1023, NUMBERS_OF_ORDER = 4;

    private static final int[] LOWEST_SETTING = {0, 0, 1, 0, 0};
    private static final int[] HIGHEST_SETTING = {10000, 100, 10, 9, 99};

    private final State now;
    /** What the "what if" calls try things on; made once, because no call may use up room. */
    private final State trial;
    private final History history;
    private final State[] slots;
    private final boolean[] isSaved;
    private final Pad pad;

    public NurseryPlaces() {
        now = new State();
        trial = new State();
        history = new History();
        slots = new State[] {new State(), new State()};
        isSaved = new boolean[SLOTS];
        pad = new Pad();
    }

    // ---- setting up

    public int set(int setting, int value) {
        history.note(now);
        return history.keepIfDone(now.changeSetting(setting, value));
    }

    public int room(int from, int to, int capacity, int ratio) {
        history.note(now);
        return history.keepIfDone(now.addRoom(from, to, capacity, ratio));
    }

    public int carer(int room, int days, int from, int to) {
        history.note(now);
        return history.keepIfDone(now.addCarer(room, days, from, to));
    }

    public int child(int age, int family, int wish) {
        history.note(now);
        return history.keepIfDone(now.addChild(age, family, wish));
    }

    public int leave(int child) {
        history.note(now);
        return history.keepIfDone(now.letLeave(child));
    }

    // ---- admission, visits, swaps

    public int admit() {
        history.note(now);
        return history.keepIfDone(Admission.admitAll(now));
    }

    public int visit(int child, int session) {
        history.note(now);
        return history.keepIfDone(Sessions.planVisit(now, child, session));
    }

    public int swap(int child, int session, int other, int otherSession) {
        history.note(now);
        return history.keepIfDone(Sessions.exchange(now, child, session, other, otherSession));
    }

    public int giveBack(int child, int session) {
        history.note(now);
        return history.keepIfDone(Sessions.handBack(now, child, session));
    }

    public int sick(int carer) {
        history.note(now);
        return history.keepIfDone(now.reportSick(carer));
    }

    public int weeks(int weeks) {
        history.note(now);
        return history.keepIfDone(Week.passWeeks(now, weeks));
    }

    // ---- what there is

    public int ofRoom(int room, int what) {
        if (!now.hasRoom(room)) return NO_SUCH;
        if (isWithin(what, 10, 19)) return now.placesIn(room, what - 10, true);
        if (isWithin(what, 20, 29)) return now.takenIn(room, what - 20);
        if (isWithin(what, 30, 39)) return now.placesIn(room, what - 30, false);
        Room row = now.rooms[room];
        switch (what) {
            case 0: return row.from;
            case 1: return row.to;
            case 2: return row.capacity;
            case 3: return row.ratio;
            case 4: return now.carersOf(room);
            case 5: return now.childrenOf(room);
            default: return BAD_VALUE;
        }
    }

    public int ofCarer(int carer, int what) {
        if (!now.hasCarer(carer)) return NO_SUCH;
        Carer row = now.carers[carer];
        switch (what) {
            case 0: return row.room;
            case 1: return row.days;
            case 2: return row.from;
            case 3: return row.to;
            case 4: return row.isSick ? 1 : 0;
            default: return BAD_VALUE;
        }
    }

    public int ofChild(int child, int what) {
        if (!now.hasChild(child)) return NO_SUCH;
        Child row = now.children[child];
        switch (what) {
            case 0: return row.age;
            case 1: return row.family;
            case 2: return row.wish;
            case 3: return row.state;
            case 4: return row.room;
            case 5: return row.sessions;
            case 6: return row.isSettled ? 1 : 0;
            case 7: return row.visits;
            case 8: return row.plannedVisit;
            case 9: return row.sessionsHeld;
            case 10: return row.timesSentHome;
            case 11: return row.paid;
            case 12: return row.waitingSince;
            default: return BAD_VALUE;
        }
    }

    public int count(int what) {
        if (isWithin(what, 4, 6)) return now.childrenInState(what - 4);
        if (isWithin(what, 14, 18)) return now.settings[what - 14];
        switch (what) {
            case 0: return now.week;
            case 1: return now.roomCount;
            case 2: return now.carerCount;
            case 3: return now.childCount;
            case 7: return now.settledChildren();
            case 8: return now.paid;
            case 9: return now.visitsHeld;
            case 10: return now.timesSentHome;
            case 11: return now.plannedVisits();
            case 12: return pad.length;
            case 13: return history.size;
            default: return BAD_VALUE;
        }
    }

    // ---- what if; nothing changes

    public int free(int room, int session) {
        if (!now.hasRoom(room) || !isSession(session)) return NO_SUCH;
        return Math.max(0, now.placesIn(room, session, true) - now.takenIn(room, session));
    }

    public int wouldGet(int child) {
        if (!now.hasChild(child)) return NO_SUCH;
        if (now.children[child].state != WAITING) return NOT_POSSIBLE;
        return Admission.sessionsFor(now, child);
    }

    public int wouldAdmit() {
        trial.copyFrom(now);
        Admission.admitAll(trial);
        return trial.childrenInState(PLACED) & ~now.childrenInState(PLACED);
    }

    public int partners(int child, int session, int otherSession) {
        if (!now.hasChild(child) || !isSession(session) || !isSession(otherSession)) return NO_SUCH;
        int set = 0;
        for (int other = 0; other < now.childCount; other++) {
            if (other != child && Sessions.canExchange(now, child, session, other, otherSession)) set |= 1 << other;
        }
        return set;
    }

    public int sentHome(int carer) {
        if (carer != NONE && !now.hasCarer(carer)) return NO_SUCH;
        trial.copyFrom(now);
        trial.reportSick(carer);
        return Week.countTooMany(trial);
    }

    public int moreBy(int room, int days, int from, int to) {
        if (!now.hasRoom(room)) return NO_SUCH;
        if (!isShift(days, from, to)) return BAD_VALUE;
        trial.copyFrom(now);
        trial.hire(room, days, from, to);
        return trial.placesInAll(room) - now.placesInAll(room);
    }

    public int income(int weeks) {
        trial.copyFrom(now);
        int answer = Week.passWeeks(trial, weeks);
        return answer < 0 ? answer : trial.paid - now.paid;
    }

    // ---- texts

    public int put(long characters) {
        return pad.append(characters);
    }

    public int wipe() {
        return pad.clear();
    }

    public int fault() {
        return pad.findFault();
    }

    public int carryOut() {
        if (pad.findFault() != NONE) return BAD_TEXT;
        history.note(now);
        int done = 0;
        pad.rewind();
        while (done < MAX_PAD && pad.readNextOrder() && carryOutOrder() >= 0) {
            done++;
        }
        pad.clear();
        return history.keepIfDone(done);
    }

    private int carryOutOrder() {
        switch (pad.kind) {
            case 'c': return now.addChild(pad.numbers[0], pad.numbers[1], pad.numbers[2]);
            case 'v': return Sessions.planVisit(now, pad.numbers[0], pad.numbers[1]);
            case 'x': return Sessions.exchange(now, pad.numbers[0], pad.numbers[1], pad.numbers[2], pad.numbers[3]);
            case 's': return now.reportSick(pad.numbers[0]);
            case 'a': return Admission.admitAll(now);
            case 'w': return Week.passWeeks(now, pad.numbers[0]);
            default: return BAD_TEXT;
        }
    }

    // ---- undo, saving

    public int undo() {
        return history.takeBack(now);
    }

    public int save(int slot) {
        if (!isSlot(slot)) return BAD_VALUE;
        slots[slot].copyFrom(now);
        isSaved[slot] = true;
        return now.week;
    }

    public int restore(int slot) {
        if (!isSlot(slot)) return BAD_VALUE;
        if (!isSaved[slot]) return NOT_POSSIBLE;
        history.note(now);
        now.copyFrom(slots[slot]);
        return history.keepIfDone(now.week);
    }

    // ---- what several classes ask

    private static boolean isWithin(int value, int lowest, int highest) {
        return lowest <= value && value <= highest;
    }

    private static boolean isSession(int session) {
        return isWithin(session, 0, SESSIONS - 1);
    }

    private static boolean isSlot(int slot) {
        return isWithin(slot, 0, SLOTS - 1);
    }

    private static boolean isShift(int days, int from, int to) {
        return isWithin(days, 1, ALL_DAYS) && isWithin(from, 0, HOURS_OF_DAY - 1) && from < to && to <= HOURS_OF_DAY;
    }

    private static boolean holds(int set, int member) {
        return (set >> member & 1) == 1;
    }

    /** A room: a band of ages, a capacity, and the children for each carer. */
    private static final class Room {
        int from;
        int to;
        int capacity;
        int ratio;

        void copyFrom(Room other) {
            from = other.from;
            to = other.to;
            capacity = other.capacity;
            ratio = other.ratio;
        }

        boolean isFor(int age) {
            return from <= age && age < to;
        }
    }

    /** A carer: a room, and a shift on some days. */
    private static final class Carer {
        int room;
        int days;
        int from;
        int to;
        boolean isSick;

        void copyFrom(Carer other) {
            room = other.room;
            days = other.days;
            from = other.from;
            to = other.to;
            isSick = other.isSick;
        }

        boolean isOnDuty(int day, int hour) {
            return (days >> day & 1) == 1 && from <= hour && hour < to;
        }
    }

    /** A child. While it is not PLACED it has room NONE and no sessions, so that no loop has to ask for its state. */
    private static final class Child {
        int age;
        int family;
        int wish;
        int state;
        int room;
        int sessions;
        boolean isSettled;
        int visits;
        int plannedVisit;
        int sessionsHeld;
        int timesSentHome;
        int paid;
        int waitingSince;
        int placing;

        void copyFrom(Child other) {
            age = other.age;
            family = other.family;
            wish = other.wish;
            state = other.state;
            room = other.room;
            sessions = other.sessions;
            isSettled = other.isSettled;
            visits = other.visits;
            plannedVisit = other.plannedVisit;
            sessionsHeld = other.sessionsHeld;
            timesSentHome = other.timesSentHome;
            paid = other.paid;
            waitingSince = other.waitingSince;
            placing = other.placing;
        }

        /** Clears the whole row: behind an undo it may hold a child that never came. */
        void come(int itsAge, int itsFamily, int itsWish, int week) {
            age = itsAge;
            family = itsFamily;
            wish = itsWish;
            sessionsHeld = 0;
            timesSentHome = 0;
            paid = 0;
            placing = 0;
            waitAgain(week);
        }

        void waitAgain(int week) {
            quitRoom(WAITING);
            visits = 0;
            waitingSince = week;
        }

        void quitRoom(int nextState) {
            state = nextState;
            room = NONE;
            sessions = 0;
            isSettled = false;
            plannedVisit = NONE;
        }

        boolean has(int session) {
            return (sessions >> session & 1) == 1;
        }

        boolean comesTo(int session) {
            return isSettled ? has(session) : plannedVisit == session;
        }
    }

    /** All that undo() and restore() bring back. */
    private static final class State {
        final int[] settings = {3000, 20, 2, 3, 12};
        final Room[] rooms = new Room[MAX_ROOMS];
        /** One row more than there can be carers: moreBy() asks for one more even if there are 12. */
        final Carer[] carers = new Carer[MAX_CARERS + 1];
        final Child[] children = new Child[MAX_CHILDREN];
        int roomCount;
        int carerCount;
        int childCount;
        int week;
        int placings;
        int paid;
        int visitsHeld;
        int timesSentHome;

        State() {
            for (int i = 0; i < MAX_ROOMS; i++) rooms[i] = new Room();
            for (int i = 0; i <= MAX_CARERS; i++) carers[i] = new Carer();
            for (int i = 0; i < MAX_CHILDREN; i++) children[i] = new Child();
        }

        void copyFrom(State other) {
            System.arraycopy(other.settings, 0, settings, 0, SETTINGS);
            roomCount = other.roomCount;
            carerCount = other.carerCount;
            childCount = other.childCount;
            week = other.week;
            placings = other.placings;
            paid = other.paid;
            visitsHeld = other.visitsHeld;
            timesSentHome = other.timesSentHome;
            for (int i = 0; i < roomCount; i++) rooms[i].copyFrom(other.rooms[i]);
            for (int i = 0; i < carerCount; i++) carers[i].copyFrom(other.carers[i]);
            for (int i = 0; i < childCount; i++) children[i].copyFrom(other.children[i]);
        }

        boolean hasRoom(int room) {
            return 0 <= room && room < roomCount;
        }

        boolean hasCarer(int carer) {
            return 0 <= carer && carer < carerCount;
        }

        boolean hasChild(int child) {
            return 0 <= child && child < childCount;
        }

        int changeSetting(int setting, int value) {
            if (!isWithin(setting, 0, SETTINGS - 1)) return BAD_VALUE;
            if (!isWithin(value, LOWEST_SETTING[setting], HIGHEST_SETTING[setting])) return BAD_VALUE;
            int previous = settings[setting];
            settings[setting] = value;
            return previous;
        }

        int addRoom(int from, int to, int capacity, int ratio) {
            if (!isWithin(from, 0, MAX_AGE - 1) || to <= from || to > MAX_AGE) return BAD_VALUE;
            if (!isWithin(capacity, 1, MAX_CAPACITY) || !isWithin(ratio, 1, MAX_RATIO)) return BAD_VALUE;
            if (roomCount >= MAX_ROOMS) return TOO_MANY;
            Room row = rooms[roomCount];
            row.from = from;
            row.to = to;
            row.capacity = capacity;
            row.ratio = ratio;
            return roomCount++;
        }

        int addCarer(int room, int days, int from, int to) {
            if (!hasRoom(room)) return NO_SUCH;
            if (!isShift(days, from, to)) return BAD_VALUE;
            if (carerCount >= MAX_CARERS) return TOO_MANY;
            return hire(room, days, from, to);
        }

        int hire(int room, int days, int from, int to) {
            if (carerCount > MAX_CARERS) return TOO_MANY;
            Carer row = carers[carerCount];
            row.room = room;
            row.days = days;
            row.from = from;
            row.to = to;
            row.isSick = false;
            return carerCount++;
        }

        int addChild(int age, int family, int wish) {
            if (!isWithin(age, 0, MAX_AGE) || !isWithin(family, 0, MAX_FAMILY)) return BAD_VALUE;
            if (!isWithin(wish, 1, ALL_SESSIONS)) return BAD_VALUE;
            if (childCount >= MAX_CHILDREN) return TOO_MANY;
            children[childCount].come(age, family, wish, week);
            return childCount++;
        }

        int letLeave(int child) {
            if (!hasChild(child)) return NO_SUCH;
            if (children[child].state == GONE) return NOT_POSSIBLE;
            children[child].quitRoom(GONE);
            return Integer.bitCount(childrenInState(PLACED));
        }

        int reportSick(int carer) {
            if (!hasCarer(carer)) return NO_SUCH;
            if (carers[carer].isSick) return NOT_POSSIBLE;
            carers[carer].isSick = true;
            int sickOnes = 0;
            for (int i = 0; i < carerCount; i++) {
                if (carers[i].isSick) sickOnes++;
            }
            return sickOnes;
        }

        int placesIn(int room, int session, boolean sickOnesCount) {
            if (!hasRoom(room)) return 0;
            int day = session / 2;
            int firstHour = session % 2 * HOURS_OF_SESSION;
            int fewest = rooms[room].capacity;
            for (int hour = firstHour; hour < firstHour + HOURS_OF_SESSION; hour++) {
                int carersThere = 0;
                for (int i = 0; i < carerCount; i++) {
                    Carer carer = carers[i];
                    boolean isCounted = carer.room == room && (sickOnesCount || !carer.isSick);
                    if (isCounted && carer.isOnDuty(day, hour)) carersThere++;
                }
                fewest = Math.min(fewest, rooms[room].ratio * carersThere);
            }
            return fewest;
        }

        int placesInAll(int room) {
            int sum = 0;
            for (int session = 0; session < SESSIONS; session++) sum += placesIn(room, session, true);
            return sum;
        }

        int takenIn(int room, int session) {
            int taken = 0;
            for (int i = 0; i < childCount; i++) {
                if (children[i].room == room && children[i].has(session)) taken++;
            }
            return taken;
        }

        boolean isOpen(int room, int session) {
            return takenIn(room, session) < placesIn(room, session, true);
        }

        /** Those of some sessions in which a place of a room is not taken. */
        int openOnes(int room, int sessions) {
            int set = 0;
            for (int session = 0; session < SESSIONS; session++) {
                boolean isAsked = holds(sessions, session);
                if (isAsked && takenIn(room, session) < placesIn(room, session, true)) set |= 1 << session;
            }
            return set;
        }

        int roomOfAge(int age) {
            for (int room = 0; room < roomCount; room++) {
                if (rooms[room].isFor(age)) return room;
            }
            return NONE;
        }

        int carersOf(int room) {
            int set = 0;
            for (int i = 0; i < carerCount; i++) {
                if (carers[i].room == room) set |= 1 << i;
            }
            return set;
        }

        int childrenOf(int room) {
            int set = 0;
            for (int i = 0; i < childCount; i++) {
                if (children[i].room == room) set |= 1 << i;
            }
            return set;
        }

        int childrenInState(int state) {
            int set = 0;
            for (int i = 0; i < childCount; i++) {
                if (children[i].state == state) set |= 1 << i;
            }
            return set;
        }

        int settledChildren() {
            int set = 0;
            for (int i = 0; i < childCount; i++) {
                if (children[i].isSettled) set |= 1 << i;
            }
            return set;
        }

        int plannedVisits() {
            int visits = 0;
            for (int i = 0; i < childCount; i++) {
                if (children[i].plannedVisit != NONE) visits++;
            }
            return visits;
        }
    }

    /** From the waiting list into a room. */
    private static final class Admission {
        static int admitAll(State state) {
            int placed = 0;
            for (int round = 0; round < MAX_CHILDREN; round++) {
                int child = nextOnList(state);
                if (!state.hasChild(child)) return placed;
                place(state, child);
                placed++;
            }
            return placed;
        }

        private static int nextOnList(State state) {
            int first = NONE;
            for (int i = 0; i < state.childCount; i++) {
                boolean hasSibling = hasPlacedSibling(state, i);
                boolean comesBefore = hasSibling || first == NONE;
                if (comesBefore && state.children[i].state == WAITING && sessionsFor(state, i) != 0) {
                    if (hasSibling) return i;
                    first = i;
                }
            }
            return first;
        }

        private static boolean hasPlacedSibling(State state, int child) {
            int family = state.children[child].family;
            for (int i = 0; i < state.childCount; i++) {
                if (state.children[i].state == PLACED && state.children[i].family == family) return true;
            }
            return false;
        }

        private static void place(State state, int child) {
            Child row = state.children[child];
            row.sessions = sessionsFor(state, child);
            row.room = state.roomOfAge(row.age);
            row.state = PLACED;
            row.isSettled = state.settings[VISITS] == 0;
            row.placing = state.placings++;
        }

        /** The sessions that a WAITING child gets now, none if it cannot be placed. */
        static int sessionsFor(State state, int child) {
            int room = state.roomOfAge(state.children[child].age);
            if (room == NONE) return 0;
            int open = state.openOnes(room, state.children[child].wish);
            return Integer.bitCount(open) >= state.settings[LEAST] ? open : 0;
        }
    }

    /** What PLACED children do with sessions: visits, exchanges, giving back. */
    private static final class Sessions {
        static int planVisit(State state, int child, int session) {
            if (!state.hasChild(child) || !isSession(session)) return NO_SUCH;
            Child row = state.children[child];
            if (row.state != PLACED || row.isSettled || row.plannedVisit != NONE) return NOT_POSSIBLE;
            if (!row.has(session) && !hasPlaceForVisit(state, row.room, session)) return NOT_POSSIBLE;
            row.plannedVisit = session;
            return state.plannedVisits();
        }

        private static boolean hasPlaceForVisit(State state, int room, int session) {
            int taken = state.takenIn(room, session);
            for (int i = 0; i < state.childCount; i++) {
                Child row = state.children[i];
                if (row.room == room && row.plannedVisit == session && !row.has(session)) taken++;
            }
            return taken < state.placesIn(room, session, true);
        }

        static int exchange(State state, int child, int session, int other, int otherSession) {
            if (!state.hasChild(child) || !state.hasChild(other) || child == other) return NO_SUCH;
            if (!isSession(session) || !isSession(otherSession)) return NO_SUCH;
            if (!canExchange(state, child, session, other, otherSession)) return NOT_POSSIBLE;
            int both = 1 << session | 1 << otherSession;
            state.children[child].sessions ^= both;
            state.children[other].sessions ^= both;
            return 1;
        }

        /** For children and sessions that there are; children that are not PLACED have no sessions. */
        static boolean canExchange(State state, int child, int session, int other, int otherSession) {
            Child one = state.children[child];
            Child two = state.children[other];
            if (!one.has(session) || two.has(session)) return false;
            if (!two.has(otherSession) || one.has(otherSession)) return false;
            if (one.room == two.room) return true;
            return state.isOpen(one.room, otherSession) && state.isOpen(two.room, session);
        }

        static int handBack(State state, int child, int session) {
            if (!state.hasChild(child) || !isSession(session)) return NO_SUCH;
            Child row = state.children[child];
            if (!row.has(session)) return NOT_POSSIBLE;
            int left = Integer.bitCount(row.sessions) - 1;
            if (left < state.settings[LEAST]) return NOT_POSSIBLE;
            row.sessions &= ~(1 << session);
            return left;
        }
    }

    /** A week that passes. */
    private static final class Week {
        static int passWeeks(State state, int weeks) {
            if (!isWithin(weeks, 1, MAX_WEEKS)) return BAD_VALUE;
            for (int i = 0; i < weeks; i++) {
                holdSessions(state);
                settle(state);
                beginWeek(state);
                moveGrown(state);
                dropImpatient(state);
            }
            return state.week;
        }

        private static void holdSessions(State state) {
            for (int room = 0; room < state.roomCount; room++) {
                for (int session = 0; session < SESSIONS; session++) {
                    holdSession(state, room, session);
                }
            }
        }

        /** Payments may be booked session by session: nobody becomes settled before all sessions are over. */
        private static void holdSession(State state, int room, int session) {
            int coming = comersTo(state, room, session);
            for (int left = tooMany(state, room, session, coming); left > 0; left--) {
                int child = nextSentHome(state, coming);
                if (!state.hasChild(child)) return;
                coming &= ~(1 << child);
                state.children[child].timesSentHome++;
                state.timesSentHome++;
            }
            for (int i = 0; i < state.childCount; i++) {
                if (holds(coming, i)) bookCame(state, i);
            }
        }

        private static int comersTo(State state, int room, int session) {
            int set = 0;
            for (int i = 0; i < state.childCount; i++) {
                Child row = state.children[i];
                if (row.room == room && row.comesTo(session)) set |= 1 << i;
            }
            return set;
        }

        private static int tooMany(State state, int room, int session, int coming) {
            if (coming == 0) return 0;
            return Math.max(0, Integer.bitCount(coming) - state.placesIn(room, session, false));
        }

        /** How many would be sent home if the week passed now. */
        static int countTooMany(State state) {
            int sum = 0;
            for (int room = 0; room < state.roomCount; room++) {
                for (int session = 0; session < SESSIONS; session++) {
                    sum += tooMany(state, room, session, comersTo(state, room, session));
                }
            }
            return sum;
        }

        private static int nextSentHome(State state, int coming) {
            int visitor = NONE;
            int placedLast = NONE;
            int latest = -1;
            for (int i = 0; i < state.childCount; i++) {
                Child row = state.children[i];
                if (holds(coming, i) && !row.isSettled) visitor = i;
                if (holds(coming, i) && row.placing > latest) {
                    placedLast = i;
                    latest = row.placing;
                }
            }
            return visitor != NONE ? visitor : placedLast;
        }

        private static void bookCame(State state, int child) {
            Child row = state.children[child];
            if (!row.isSettled) {
                row.visits++;
                state.visitsHeld++;
                return;
            }
            int fee = feeFor(state, child);
            row.sessionsHeld++;
            row.paid += fee;
            state.paid += fee;
        }

        private static int feeFor(State state, int child) {
            int family = state.children[child].family;
            int price = state.settings[PRICE];
            for (int i = 0; i < child; i++) {
                Child row = state.children[i];
                if (row.isSettled && row.family == family) return price * (100 - state.settings[DISCOUNT]) / 100;
            }
            return price;
        }

        private static void settle(State state) {
            for (int i = 0; i < state.childCount; i++) {
                Child row = state.children[i];
                if (row.state == PLACED && row.visits >= state.settings[VISITS]) row.isSettled = true;
            }
        }

        private static void beginWeek(State state) {
            state.week++;
            for (int i = 0; i < state.carerCount; i++) state.carers[i].isSick = false;
            for (int i = 0; i < state.childCount; i++) {
                Child row = state.children[i];
                row.plannedVisit = NONE;
                if (state.week % WEEKS_OF_MONTH == 0 && row.state != GONE) row.age++;
            }
        }

        private static void moveGrown(State state) {
            for (int i = 0; i < state.childCount; i++) {
                Child row = state.children[i];
                if (state.hasRoom(row.room) && !state.rooms[row.room].isFor(row.age)) move(state, row);
            }
        }

        private static void move(State state, Child row) {
            int room = state.roomOfAge(row.age);
            if (room == NONE) {
                row.quitRoom(GONE);
                return;
            }
            int kept = state.openOnes(room, row.sessions);
            if (Integer.bitCount(kept) >= state.settings[LEAST]) {
                row.room = room;
                row.sessions = kept;
            } else {
                row.waitAgain(state.week);
            }
        }

        private static void dropImpatient(State state) {
            for (int i = 0; i < state.childCount; i++) {
                Child row = state.children[i];
                boolean isImpatient = state.week - row.waitingSince > state.settings[PATIENCE];
                if (row.state == WAITING && isImpatient) row.quitRoom(GONE);
            }
        }
    }

    /** The text of orders, and a cursor that reads it. */
    private static final class Pad {
        final char[] signs = new char[MAX_PAD];
        int length;
        int cursor;
        /** The order that was read last: its letter and its numbers. */
        char kind;
        final int[] numbers = new int[NUMBERS_OF_ORDER];
        int numberCount;

        int append(long characters) {
            int added = countIn(characters);
            if (added == 0) return BAD_VALUE;
            if (length + added > MAX_PAD) return TOO_MANY;
            for (int i = added - 1; i >= 0; i--) {
                signs[length] = (char) ((characters >>> (8 * i)) & 255);
                length++;
            }
            return length;
        }

        /** How many characters a number holds, 0 if it is not one that put() takes. */
        private static int countIn(long characters) {
            int count = 0;
            long rest = characters;
            while (count < 8 && (rest & 255) != 0) {
                if (!isWithin((int) (rest & 255), 33, 126)) return 0;
                rest >>>= 8;
                count++;
            }
            return rest == 0 ? count : 0;
        }

        int clear() {
            int before = length;
            length = 0;
            return before;
        }

        void rewind() {
            cursor = 0;
        }

        int findFault() {
            rewind();
            for (int orders = 0; orders < MAX_PAD; orders++) {
                if (!readOrder()) return cursor;
                if (cursor == length) return NONE;
                if (!readSign(';')) return cursor;
            }
            return cursor;
        }

        /** For a pad without a fault: false at its end. */
        boolean readNextOrder() {
            if (cursor > 0 && !readSign(';')) return false;
            return readOrder();
        }

        /** Leaves the cursor on the sign that cannot stand where it is, if there is one. */
        private boolean readOrder() {
            if (cursor >= length) return false;
            kind = signs[cursor];
            String form = formOf(kind);
            if (form == null) return false;
            cursor++;
            numberCount = 0;
            for (int i = 0; i < form.length(); i++) {
                if (!readPart(form.charAt(i))) return false;
            }
            return true;
        }

        /** What stands behind an order's letter: N a number, D a digit, anything else itself. */
        private static String formOf(char letter) {
            switch (letter) {
                case 'c': return "N/N:N";
                case 'v': return "N@D";
                case 'x': return "N@D=N@D";
                case 's': return "N";
                case 'a': return "";
                case 'w': return "N";
                default: return null;
            }
        }

        private boolean readPart(char part) {
            if (part == 'N') return readNumber();
            if (part == 'D') return readDigit();
            return readSign(part);
        }

        private boolean readSign(char sign) {
            if (cursor >= length || signs[cursor] != sign) return false;
            cursor++;
            return true;
        }

        private boolean readDigit() {
            if (!isAtDigit()) return false;
            keepNumber(signs[cursor] - '0');
            cursor++;
            return true;
        }

        private boolean readNumber() {
            if (!isAtDigit()) return false;
            int number = signs[cursor] - '0';
            for (cursor++; cursor < length && isAtDigit(); cursor++) {
                int longer = number * 10 + signs[cursor] - '0';
                if (number == 0 || longer > MAX_NUMBER) return false;
                number = longer;
            }
            keepNumber(number);
            return true;
        }

        private boolean isAtDigit() {
            return cursor < length && isWithin(signs[cursor], '0', '9');
        }

        private void keepNumber(int number) {
            if (numberCount >= NUMBERS_OF_ORDER) return;
            numbers[numberCount] = number;
            numberCount++;
        }
    }

    /** The states before the latest changes. */
    private static final class History {
        /** One row more than is kept: a change that fails must not have cost the oldest state. */
        private static final int ROWS = MAX_UNDO + 1;

        final State[] rows = new State[ROWS];
        int oldest;
        int size;

        History() {
            for (int i = 0; i < ROWS; i++) rows[i] = new State();
        }

        void note(State before) {
            rows[(oldest + size) % ROWS].copyFrom(before);
        }

        int keepIfDone(int answer) {
            if (answer < 0) return answer;
            if (size < MAX_UNDO) {
                size++;
            } else {
                oldest = (oldest + 1) % ROWS;
            }
            return answer;
        }

        int takeBack(State now) {
            if (size == 0) return NOT_POSSIBLE;
            size--;
            now.copyFrom(rows[(oldest + size) % ROWS]);
            return size;
        }
    }
}
