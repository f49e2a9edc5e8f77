import java.util.ArrayDeque;
import java.util.ArrayList;
import java.util.Comparator;
import java.util.Deque;
import java.util.List;
import java.util.Optional;
import java.util.TreeSet;
import java.util.regex.Matcher;
import java.util.regex.Pattern;

/** The document once more, written in another way and with the Java library, for ModelTest to compare with. */
final class PlainNursery {
    private static final int NO_SUCH = -1, BAD_VALUE = -2, BAD_TEXT = -3, TOO_MANY = -4, NOT_POSSIBLE = -5, NONE = -6;
    private static final String NUMBER = "(0|[1-9][0-9]{0,2}|10[01][0-9]|102[0-3])";
    private static final String DIGIT = "([0-9])";
    private static final String ORDER = "(?:c" + NUMBER + "/" + NUMBER + ":" + NUMBER + "|v" + NUMBER + "@" + DIGIT
        + "|x" + NUMBER + "@" + DIGIT + "=" + NUMBER + "@" + DIGIT + "|s" + NUMBER + "|a|w" + NUMBER + ")";
    private static final Pattern TEXT = Pattern.compile(ORDER + "(?:;" + ORDER + ")*");

    /** An error code on its way to the caller. */
    private static final class Refused extends RuntimeException {
        private static final long serialVersionUID = 1L;
        private final int code;

        Refused(int code) {
            super(null, null, false, false);
            this.code = code;
        }
    }

    private interface Call {
        int run();
    }

    private record Room(int from, int to, int capacity, int ratio) {
        boolean takes(int age) {
            return age >= from && age < to;
        }
    }

    private record Carer(int room, int days, int from, int to) {
        boolean works(int hourOfWeek) {
            int day = hourOfWeek / 10;
            int hour = hourOfWeek % 10;
            return (days & 1 << day) != 0 && hour >= from && hour < to;
        }
    }

    private static final class Kid {
        int number, age, family, wish, room = NONE, visits, planned = NONE, came, home, paid, since;
        long rank;
        String state = "waiting";
        boolean settled;
        TreeSet<Integer> own = new TreeSet<>();

        Kid copy() {
            Kid kid = new Kid();
            kid.number = number;
            kid.age = age;
            kid.family = family;
            kid.wish = wish;
            kid.room = room;
            kid.visits = visits;
            kid.planned = planned;
            kid.came = came;
            kid.home = home;
            kid.paid = paid;
            kid.since = since;
            kid.rank = rank;
            kid.state = state;
            kid.settled = settled;
            kid.own = new TreeSet<>(own);
            return kid;
        }

        boolean isPlaced() {
            return state.equals("placed");
        }

        boolean isWaiting() {
            return state.equals("waiting");
        }

        boolean isGone() {
            return state.equals("gone");
        }

        void out(String next) {
            state = next;
            room = NONE;
            own.clear();
            settled = false;
            planned = NONE;
        }
    }

    private static final class World {
        int[] settings = {3000, 20, 2, 3, 12};
        List<Room> rooms = new ArrayList<>();
        List<Carer> carers = new ArrayList<>();
        TreeSet<Integer> sick = new TreeSet<>();
        List<Kid> kids = new ArrayList<>();
        int week, visits, home, paid;
        long ranks;

        World copy() {
            World world = new World();
            world.settings = settings.clone();
            world.rooms.addAll(rooms);
            world.carers.addAll(carers);
            world.sick.addAll(sick);
            for (Kid kid : kids) world.kids.add(kid.copy());
            world.week = week;
            world.visits = visits;
            world.home = home;
            world.paid = paid;
            world.ranks = ranks;
            return world;
        }

        int places(int room, int session, boolean healthyOnly) {
            int[] there = new int[50];
            for (int i = 0; i < carers.size(); i++) {
                if (carers.get(i).room() != room || healthyOnly && sick.contains(i)) continue;
                for (int hour = 0; hour < 50; hour++) {
                    if (carers.get(i).works(hour)) there[hour]++;
                }
            }
            int least = Integer.MAX_VALUE;
            for (int hour = 5 * session; hour < 5 * session + 5; hour++) least = Math.min(least, there[hour]);
            return Math.min(rooms.get(room).capacity(), rooms.get(room).ratio() * least);
        }

        int taken(int room, int session) {
            return (int) kids.stream().filter(k -> k.isPlaced() && k.room == room && k.own.contains(session)).count();
        }

        boolean hasFree(int room, int session) {
            return places(room, session, false) - taken(room, session) > 0;
        }

        int roomOf(int age) {
            for (Room room : rooms) {
                if (room.takes(age)) return rooms.indexOf(room);
            }
            return NONE;
        }

        TreeSet<Integer> grant(Kid kid, Iterable<Integer> sessions) {
            TreeSet<Integer> granted = new TreeSet<>();
            int room = roomOf(kid.age);
            if (room == NONE) return granted;
            for (int session : sessions) {
                if (hasFree(room, session)) granted.add(session);
            }
            if (granted.size() < settings[2]) granted.clear();
            return granted;
        }

        boolean hasSiblingPlaced(Kid kid) {
            return kids.stream().anyMatch(k -> k.isPlaced() && k.family == kid.family);
        }

        int admit() {
            int placed = 0;
            while (true) {
                Optional<Kid> next = kids.stream().filter(k -> k.isWaiting() && !grant(k, members(k.wish)).isEmpty())
                    .min(Comparator.comparing((Kid k) -> !hasSiblingPlaced(k)).thenComparing(k -> k.number));
                if (next.isEmpty()) return placed;
                Kid kid = next.get();
                kid.own = grant(kid, members(kid.wish));
                kid.room = roomOf(kid.age);
                kid.state = "placed";
                kid.settled = settings[3] == 0;
                kid.rank = ++ranks;
                placed++;
            }
        }

        /** One list for each room and session: who is sent home, in this order; coming gets those who stay. */
        List<Kid> sendHome(int room, int session, List<Kid> coming) {
            List<Kid> visitors = new ArrayList<>();
            List<Kid> settled = new ArrayList<>();
            for (Kid kid : kids) {
                if (!kid.isPlaced() || kid.room != room) continue;
                if (kid.settled && kid.own.contains(session)) settled.add(kid);
                if (kid.planned == session) visitors.add(kid);
            }
            settled.sort(Comparator.comparing(k -> k.rank));
            coming.addAll(settled);
            coming.addAll(visitors);
            List<Kid> home = new ArrayList<>();
            int places = places(room, session, true);
            while (coming.size() > places) home.add(coming.remove(coming.size() - 1));
            return home;
        }

        int countHome() {
            int count = 0;
            for (int room = 0; room < rooms.size(); room++) {
                for (int session = 0; session < 10; session++) count += sendHome(room, session, new ArrayList<>()).size();
            }
            return count;
        }

        void passWeek() {
            List<Kid> payers = new ArrayList<>();
            List<Kid> visitors = new ArrayList<>();
            for (int room = 0; room < rooms.size(); room++) {
                for (int session = 0; session < 10; session++) {
                    List<Kid> coming = new ArrayList<>();
                    for (Kid kid : sendHome(room, session, coming)) {
                        kid.home++;
                        home++;
                    }
                    for (Kid kid : coming) (kid.settled ? payers : visitors).add(kid);
                }
            }
            for (Kid kid : payers) {
                boolean isYounger = kids.stream().anyMatch(k -> k.settled && k.number < kid.number && k.family == kid.family);
                int fee = isYounger ? settings[0] * (100 - settings[1]) / 100 : settings[0];
                kid.came++;
                kid.paid += fee;
                paid += fee;
            }
            for (Kid kid : visitors) {
                kid.visits++;
                visits++;
            }
            for (Kid kid : kids) kid.settled |= kid.isPlaced() && kid.visits >= settings[3];
            week++;
            sick.clear();
            for (Kid kid : kids) {
                kid.planned = NONE;
                if (week % 4 == 0 && !kid.isGone()) kid.age++;
            }
            for (Kid kid : kids) grow(kid);
            for (Kid kid : kids) {
                if (kid.isWaiting() && kid.since + settings[4] < week) kid.out("gone");
            }
        }

        void grow(Kid kid) {
            if (!kid.isPlaced() || rooms.get(kid.room).takes(kid.age)) return;
            TreeSet<Integer> before = new TreeSet<>(kid.own);
            boolean wasSettled = kid.settled;
            kid.out("gone");
            if (roomOf(kid.age) == NONE) return;
            TreeSet<Integer> kept = grant(kid, before);
            if (kept.isEmpty()) {
                kid.state = "waiting";
                kid.visits = 0;
                kid.since = week;
            } else {
                kid.state = "placed";
                kid.room = roomOf(kid.age);
                kid.own = kept;
                kid.settled = wasSettled;
            }
        }

        void checkSwap(int child, int session, int other, int otherSession) {
            if (child < 0 || child >= kids.size() || other < 0 || other >= kids.size()) throw new Refused(NO_SUCH);
            if (session < 0 || session > 9 || otherSession < 0 || otherSession > 9 || child == other) throw new Refused(NO_SUCH);
            Kid a = kids.get(child);
            Kid b = kids.get(other);
            boolean fits = a.isPlaced() && b.isPlaced() && a.own.contains(session) && !b.own.contains(session)
                && b.own.contains(otherSession) && !a.own.contains(otherSession);
            if (!fits) throw new Refused(NOT_POSSIBLE);
            if (a.room != b.room && !(hasFree(a.room, otherSession) && hasFree(b.room, session))) throw new Refused(NOT_POSSIBLE);
        }
    }

    private World world = new World();
    private final Deque<World> history = new ArrayDeque<>();
    private final World[] slots = new World[2];
    private String pad = "";

    private static TreeSet<Integer> members(int set) {
        TreeSet<Integer> members = new TreeSet<>();
        for (int i = 0; i < 31; i++) {
            if ((set & 1 << i) != 0) members.add(i);
        }
        return members;
    }

    private static int set(Iterable<Integer> members) {
        int set = 0;
        for (int member : members) set += 1 << member;
        return set;
    }

    private static void need(boolean holds, int code) {
        if (!holds) throw new Refused(code);
    }

    private static int answer(Call call) {
        try {
            return call.run();
        } catch (Refused refused) {
            return refused.code;
        }
    }

    private int change(Call call) {
        World before = world.copy();
        int answer = answer(call);
        if (answer >= 0) {
            history.addLast(before);
            if (history.size() > 6) history.removeFirst();
        }
        return answer;
    }

    private Kid kid(int child) {
        need(child >= 0 && child < world.kids.size(), NO_SUCH);
        return world.kids.get(child);
    }

    private void needRoom(int room) {
        need(room >= 0 && room < world.rooms.size(), NO_SUCH);
    }

    private static void needSession(int session) {
        need(session >= 0 && session < 10, NO_SUCH);
    }

    private static void needRange(int value, int from, int to) {
        need(value >= from && value <= to, BAD_VALUE);
    }

    int set(int setting, int value) {
        return change(() -> {
            int[][] ranges = {{0, 10000}, {0, 100}, {1, 10}, {0, 9}, {0, 99}};
            needRange(setting, 0, 4);
            needRange(value, ranges[setting][0], ranges[setting][1]);
            int before = world.settings[setting];
            world.settings[setting] = value;
            return before;
        });
    }

    int room(int from, int to, int capacity, int ratio) {
        return change(() -> {
            needRange(from, 0, 71);
            needRange(to, from + 1, 72);
            needRange(capacity, 1, 40);
            needRange(ratio, 1, 12);
            need(world.rooms.size() < 5, TOO_MANY);
            world.rooms.add(new Room(from, to, capacity, ratio));
            return world.rooms.size() - 1;
        });
    }

    int carer(int room, int days, int from, int to) {
        return change(() -> {
            needRoom(room);
            needShift(days, from, to);
            need(world.carers.size() < 12, TOO_MANY);
            world.carers.add(new Carer(room, days, from, to));
            return world.carers.size() - 1;
        });
    }

    private static void needShift(int days, int from, int to) {
        needRange(days, 1, 31);
        needRange(from, 0, 9);
        needRange(to, from + 1, 10);
    }

    int child(int age, int family, int wish) {
        return change(() -> comes(age, family, wish));
    }

    private int comes(int age, int family, int wish) {
        needRange(age, 0, 72);
        needRange(family, 0, 15);
        needRange(wish, 1, 1023);
        need(world.kids.size() < 24, TOO_MANY);
        Kid kid = new Kid();
        kid.number = world.kids.size();
        kid.age = age;
        kid.family = family;
        kid.wish = wish;
        kid.since = world.week;
        world.kids.add(kid);
        return kid.number;
    }

    int leave(int child) {
        return change(() -> {
            need(!kid(child).isGone(), NOT_POSSIBLE);
            kid(child).out("gone");
            return (int) world.kids.stream().filter(Kid::isPlaced).count();
        });
    }

    int admit() {
        return change(() -> world.admit());
    }

    int visit(int child, int session) {
        return change(() -> visits(child, session));
    }

    private int visits(int child, int session) {
        Kid kid = kid(child);
        needSession(session);
        need(kid.isPlaced() && !kid.settled && kid.planned == NONE, NOT_POSSIBLE);
        if (!kid.own.contains(session)) {
            int guests = (int) world.kids.stream()
                .filter(k -> k.isPlaced() && k.room == kid.room && k.planned == session && !k.own.contains(session)).count();
            need(world.taken(kid.room, session) + guests < world.places(kid.room, session, false), NOT_POSSIBLE);
        }
        kid.planned = session;
        return (int) world.kids.stream().filter(k -> k.planned != NONE).count();
    }

    int swap(int child, int session, int other, int otherSession) {
        return change(() -> swaps(child, session, other, otherSession));
    }

    private int swaps(int child, int session, int other, int otherSession) {
        world.checkSwap(child, session, other, otherSession);
        kid(child).own.remove(session);
        kid(other).own.remove(otherSession);
        kid(child).own.add(otherSession);
        kid(other).own.add(session);
        return 1;
    }

    int giveBack(int child, int session) {
        return change(() -> {
            Kid kid = kid(child);
            needSession(session);
            need(kid.isPlaced() && kid.own.contains(session) && kid.own.size() > world.settings[2], NOT_POSSIBLE);
            kid.own.remove(session);
            return kid.own.size();
        });
    }

    int sick(int carer) {
        return change(() -> fallsSick(carer));
    }

    private int fallsSick(int carer) {
        need(carer >= 0 && carer < world.carers.size(), NO_SUCH);
        need(world.sick.add(carer), NOT_POSSIBLE);
        return world.sick.size();
    }

    int weeks(int weeks) {
        return change(() -> pass(weeks));
    }

    private int pass(int weeks) {
        needRange(weeks, 1, 52);
        for (int i = 0; i < weeks; i++) world.passWeek();
        return world.week;
    }

    int ofRoom(int room, int what) {
        return answer(() -> {
            needRoom(room);
            need(what >= 0 && what <= 5 || what >= 10 && what <= 39, BAD_VALUE);
            Room it = world.rooms.get(room);
            if (what == 0) return it.from();
            if (what == 1) return it.to();
            if (what == 2) return it.capacity();
            if (what == 3) return it.ratio();
            TreeSet<Integer> set = new TreeSet<>();
            if (what == 4) {
                for (int i = 0; i < world.carers.size(); i++) if (world.carers.get(i).room() == room) set.add(i);
                return set(set);
            }
            if (what == 5) {
                for (Kid kid : world.kids) if (kid.isPlaced() && kid.room == room) set.add(kid.number);
                return set(set);
            }
            if (what < 20) return world.places(room, what - 10, false);
            return what < 30 ? world.taken(room, what - 20) : world.places(room, what - 30, true);
        });
    }

    int ofCarer(int carer, int what) {
        return answer(() -> {
            need(carer >= 0 && carer < world.carers.size(), NO_SUCH);
            needRange(what, 0, 4);
            Carer it = world.carers.get(carer);
            return new int[] {it.room(), it.days(), it.from(), it.to(), world.sick.contains(carer) ? 1 : 0}[what];
        });
    }

    int ofChild(int child, int what) {
        return answer(() -> {
            Kid kid = kid(child);
            needRange(what, 0, 12);
            int state = kid.isWaiting() ? 0 : kid.isPlaced() ? 1 : 2;
            return new int[] {kid.age, kid.family, kid.wish, state, kid.isPlaced() ? kid.room : NONE,
                kid.isPlaced() ? set(kid.own) : 0, kid.isPlaced() && kid.settled ? 1 : 0, kid.visits, kid.planned,
                kid.came, kid.home, kid.paid, kid.since}[what];
        });
    }

    int count(int what) {
        return answer(() -> {
            needRange(what, 0, 18);
            int[] sets = new int[4];
            int planned = 0;
            for (Kid kid : world.kids) {
                sets[kid.isWaiting() ? 0 : kid.isPlaced() ? 1 : 2] |= 1 << kid.number;
                if (kid.isPlaced() && kid.settled) sets[3] |= 1 << kid.number;
                if (kid.planned != NONE) planned++;
            }
            int[] s = world.settings;
            return new int[] {world.week, world.rooms.size(), world.carers.size(), world.kids.size(), sets[0], sets[1], sets[2],
                sets[3], world.paid, world.visits, world.home, planned, pad.length(), history.size(),
                s[0], s[1], s[2], s[3], s[4]}[what];
        });
    }

    int free(int room, int session) {
        return answer(() -> {
            needRoom(room);
            needSession(session);
            return Math.max(0, world.places(room, session, false) - world.taken(room, session));
        });
    }

    int wouldGet(int child) {
        return answer(() -> {
            need(kid(child).isWaiting(), NOT_POSSIBLE);
            World other = world.copy();
            for (Kid kid : other.kids) if (kid.isWaiting() && kid.number != child) kid.out("gone");
            other.admit();
            return set(other.kids.get(child).own);
        });
    }

    int wouldAdmit() {
        World other = world.copy();
        other.admit();
        TreeSet<Integer> placed = new TreeSet<>();
        for (Kid kid : world.kids) {
            if (!kid.isPlaced() && other.kids.get(kid.number).isPlaced()) placed.add(kid.number);
        }
        return set(placed);
    }

    int partners(int child, int session, int otherSession) {
        return answer(() -> {
            kid(child);
            needSession(session);
            needSession(otherSession);
            TreeSet<Integer> partners = new TreeSet<>();
            for (Kid kid : world.kids) {
                int answer = answer(() -> {
                    world.checkSwap(child, session, kid.number, otherSession);
                    return 1;
                });
                if (answer == 1) partners.add(kid.number);
            }
            return set(partners);
        });
    }

    int sentHome(int carer) {
        return answer(() -> {
            need(carer == NONE || carer >= 0 && carer < world.carers.size(), NO_SUCH);
            World other = world.copy();
            if (carer != NONE) other.sick.add(carer);
            return other.countHome();
        });
    }

    int moreBy(int room, int days, int from, int to) {
        return answer(() -> {
            needRoom(room);
            needShift(days, from, to);
            World other = world.copy();
            other.carers.add(new Carer(room, days, from, to));
            int more = 0;
            for (int session = 0; session < 10; session++) {
                more += other.places(room, session, false) - world.places(room, session, false);
            }
            return more;
        });
    }

    int income(int weeks) {
        return answer(() -> {
            needRange(weeks, 1, 52);
            World other = world.copy();
            for (int i = 0; i < weeks; i++) other.passWeek();
            return other.paid - world.paid;
        });
    }

    int put(long characters) {
        return answer(() -> {
            StringBuilder text = new StringBuilder();
            boolean isOver = false;
            for (int i = 0; i < 8; i++) {
                int code = (int) (characters >>> 8 * i & 0xff);
                need(!(isOver && code != 0), BAD_VALUE);
                isOver = code == 0;
                if (!isOver) needRange(code, 33, 126);
                if (!isOver) text.insert(0, (char) code);
            }
            need(text.length() > 0, BAD_VALUE);
            need(pad.length() + text.length() <= 80, TOO_MANY);
            pad += text;
            return pad.length();
        });
    }

    int wipe() {
        int length = pad.length();
        pad = "";
        return length;
    }

    int fault() {
        for (int end = 1; end <= pad.length(); end++) {
            Matcher matcher = TEXT.matcher(pad.substring(0, end));
            if (!matcher.matches() && !matcher.hitEnd()) return end - 1;
        }
        return TEXT.matcher(pad).matches() ? NONE : pad.length();
    }

    int carryOut() {
        if (fault() != NONE) return BAD_TEXT;
        int answer = change(() -> {
            int done = 0;
            for (String order : pad.split(";")) {
                if (answer(() -> carryOutOrder(order)) < 0) break;
                done++;
            }
            return done;
        });
        pad = "";
        return answer;
    }

    private int carryOutOrder(String order) {
        String[] parts = order.substring(1).split("[/:@=]");
        int[] n = new int[4];
        for (int i = 0; i < parts.length; i++) n[i] = parts[i].isEmpty() ? 0 : Integer.parseInt(parts[i]);
        return switch (order.charAt(0)) {
            case 'c' -> comes(n[0], n[1], n[2]);
            case 'v' -> visits(n[0], n[1]);
            case 'x' -> swaps(n[0], n[1], n[2], n[3]);
            case 's' -> fallsSick(n[0]);
            case 'a' -> world.admit();
            default -> pass(n[0]);
        };
    }

    int undo() {
        if (history.isEmpty()) return NOT_POSSIBLE;
        world = history.removeLast();
        return history.size();
    }

    int save(int slot) {
        return answer(() -> {
            needRange(slot, 0, 1);
            slots[slot] = world.copy();
            return world.week;
        });
    }

    int restore(int slot) {
        return change(() -> {
            needRange(slot, 0, 1);
            need(slots[slot] != null, NOT_POSSIBLE);
            world = slots[slot].copy();
            return world.week;
        });
    }
}
