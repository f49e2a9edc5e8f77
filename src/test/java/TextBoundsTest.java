import java.util.function.Supplier;

/** Texts, and the promises 24 to 27: a test for each sentence that names a boundary. */
public final class TextBoundsTest {
    private static final Check CHECK = new Check("TextBoundsTest");
    private static final String DIGITS = "0123456789";

    public static void main(String[] args) {
        padLength();
        textOfOrders();
        formsOfOrders();
        meaningOfOrders();
        digits();
        numbers();
        leadingZeros();
        firstThatCannotStand();
        above1023();
        endsTooEarly();
        putAppends();
        putAsNumber();
        putLength();
        putThen();
        putNoCharacter();
        putCode();
        putBitAbove();
        putTooMany();
        wipeEmpties();
        faultOrNone();
        carryOutInOrder();
        carryOutUpToAnError();
        carryOutOneChange();
        carryOutHowMany();
        carryOutBadText();
        CHECK.finish();
    }

    private static void due(String call, int got, int want) {
        CHECK.due(call, got, want);
    }

    private static void unchanged(String call, int answer, Supplier<NurseryPlaces> maker, Unchanged.Call asked) {
        Unchanged.due(CHECK, call, maker, asked, answer);
    }

    private static NurseryPlaces with(String text) {
        NurseryPlaces x = new NurseryPlaces();
        Texts.put(x, text);
        return x;
    }

    private static void faultless(String text) {
        due("fault of " + text, with(text).fault(), -6);
    }

    private static void fault(String text, int at) {
        due("fault of " + text, with(text).fault(), at);
        if (at < text.length()) due("fault of " + text + "a", with(text + "a").fault(), at);
    }

    /** So many orders "a", with ";" between them. */
    private static String orders(int count) {
        return "a" + ";a".repeat(count - 1);
    }

    private static void padLength() {
        CHECK.sentence("Terms", "The pad is a text of at most 80 characters, a row of orders");
        NurseryPlaces x = with("a".repeat(79));
        due("79", x.count(12), 79);
        due("80", x.put('a'), 80);
        due("81", x.put('a'), -4);
        due("80", x.count(12), 80);
        faultless(orders(40));
        fault(orders(40) + ";", 80);
    }

    private static void textOfOrders() {
        CHECK.sentence("Terms", "text = order { \";\" order }");
        faultless("a");
        faultless("a;a");
        faultless("w1;w1;w1");
        faultless("c0/0:1;a;v0@0;x0@1=2@3;s0;w1");
        fault(";a", 0);
        fault("a;;a", 2);
        fault("a;a;", 4);
        fault("aa", 1);
        fault("a,a", 1);
        fault("w1w1", 2);
        fault("v1@1v1@1", 4);
    }

    private static void formsOfOrders() {
        CHECK.sentence("Terms", "order = \"c\" number \"/\" number \":\" number | \"v\" number \"@\" digit | \"x\" number \"@\" digit \"=\" number \"@\" digit | \"s\" number | \"a\" | \"w\" number");
        String[] whole = {"c1/2:3", "v1@2", "x1@2=3@4", "s1", "a", "w1"};
        for (String order : whole) faultless(order);
        mayFollow("", "cvxsaw");
        mayFollow("a", ";");
        mayFollow("a;", "cvxsaw");
        mayFollow("c", DIGITS);
        mayFollow("c1", DIGITS + "/");
        mayFollow("c1/", DIGITS);
        mayFollow("c1/2", DIGITS + ":");
        mayFollow("c1/2:", DIGITS);
        mayFollow("c1/2:3", DIGITS + ";");
        mayFollow("v", DIGITS);
        mayFollow("v1", DIGITS + "@");
        mayFollow("v1@", DIGITS);
        mayFollow("v1@2", ";");
        mayFollow("x", DIGITS);
        mayFollow("x1", DIGITS + "@");
        mayFollow("x1@", DIGITS);
        mayFollow("x1@2", "=");
        mayFollow("x1@2=", DIGITS);
        mayFollow("x1@2=3", DIGITS + "@");
        mayFollow("x1@2=3@", DIGITS);
        mayFollow("x1@2=3@4", ";");
        mayFollow("s", DIGITS);
        mayFollow("s1", DIGITS + ";");
        mayFollow("w", DIGITS);
        mayFollow("w1", DIGITS + ";");
    }

    /** Each character but these cannot stand behind a text. */
    private static void mayFollow(String text, String characters) {
        for (char next = 33; next <= 126; next++) {
            String longer = text + next;
            int fault = with(longer).fault();
            if (characters.indexOf(next) < 0) due("fault of " + longer, fault, text.length());
            else CHECK.that("fault of " + longer + " is " + fault, fault == -6 || fault == longer.length());
        }
    }

    private static void meaningOfOrders() {
        CHECK.sentence("Terms", "\"c\": child() with an age, a family, a wish; \"v\": visit() of a child in a session; \"x\": swap() of a child's session with another child's one; \"s\": sick() of a carer; \"a\": admit(); \"w\": so many weeks().");
        NurseryPlaces x = Nurseries.withPlaces(1);
        due("c", Texts.carryOut(x, "c72/15:1023;c10/3:513;c11/4:2"), 3);
        int[][] children = {{72, 15, 1023}, {10, 3, 513}, {11, 4, 2}};
        for (int child = 0; child < 3; child++) {
            for (int what = 0; what < 3; what++) due("ofChild(" + child + ", " + what + ")", x.ofChild(child, what), children[child][what]);
        }
        due("a", Texts.carryOut(x, "a"), 1);
        due("1 and 2 are placed", x.count(5), 6);
        due("v", Texts.carryOut(x, "v1@8"), 1);
        due("the visit", x.ofChild(1, 8), 8);
        due("x", Texts.carryOut(x, "x1@9=2@1"), 1);
        due("sessions of 1", x.ofChild(1, 5), 1 + 2);
        due("sessions of 2", x.ofChild(2, 5), 512);
        due("s", Texts.carryOut(x, "s0"), 1);
        due("carer 0", x.ofCarer(0, 4), 1);
        due("w", Texts.carryOut(x, "w2"), 1);
        due("the week", x.count(0), 2);
    }

    private static void digits() {
        CHECK.sentence("Terms", "A digit is 0 to 9");
        for (int digit = 0; digit <= 9; digit++) faultless("x1@" + digit + "=2@" + (9 - digit));
        faultless("v1@0");
        faultless("v1@9");
        fault("v1@/", 3);
        fault("v1@:", 3);
        fault("v1@10", 4);
        fault("v1@00", 4);
        fault("x1@10", 4);
        fault("x1@1=2@10", 8);
    }

    private static void numbers() {
        CHECK.sentence("Terms", "a number is 0 to 1023, without leading zeros.");
        for (String number : new String[] {"0", "1", "9", "10", "99", "100", "999", "1000", "1019", "1020", "1023"}) {
            faultless("c" + number + "/" + number + ":" + number);
            faultless("v" + number + "@0");
            faultless("x" + number + "@0=" + number + "@0");
            faultless("s" + number);
            faultless("w" + number);
        }
    }

    private static void leadingZeros() {
        CHECK.sentence("Terms", "without leading zeros.");
        mayFollow("s0", ";");
        mayFollow("c0", "/");
        mayFollow("c1/0", ":");
        mayFollow("v0", "@");
        for (String number : new String[] {"00", "01", "09", "010", "01023"}) {
            fault("c" + number, 2);
            fault("c1/" + number, 4);
            fault("c1/2:" + number, 6);
            fault("v" + number, 2);
            fault("x" + number, 2);
            fault("x1@2=" + number, 6);
            fault("s" + number, 2);
            fault("w" + number, 2);
        }
        faultless("c0/0:0");
    }

    private static void firstThatCannotStand() {
        CHECK.sentence("Terms", "The fault is the index of the first character that cannot stand at its place when the text is read from left to right");
        fault("b", 0);
        fault("ab", 1);
        fault("a;b;b", 2);
        fault("w1;w!;w!", 4);
        fault(orders(39) + ";b", 78);
        fault(orders(39) + ";s!", 79);
        fault(orders(40).substring(0, 79) + "a", 79);
    }

    private static void above1023() {
        CHECK.sentence("Terms", "(also of a digit by which a number would be above 1023)");
        mayFollow("s101", DIGITS + ";");
        mayFollow("s102", "0123;");
        mayFollow("s103", ";");
        mayFollow("s1023", ";");
        for (String number : new String[] {"1024", "1029", "1030", "1100", "2000", "9999", "10000", "10230", "99999999"}) {
            int at = number.startsWith("1023") || number.equals("10000") ? 4 : 3;
            fault("c" + number, 1 + at);
            fault("c1/" + number, 3 + at);
            fault("c1/2:" + number, 5 + at);
            fault("v" + number, 1 + at);
            fault("x" + number, 1 + at);
            fault("x1@2=" + number, 5 + at);
            fault("s" + number, 1 + at);
            fault("w" + number, 1 + at);
        }
        faultless("c1023/1023:1023");
        due("the longest number", with("s" + "9".repeat(79)).fault(), 4);
    }

    private static void endsTooEarly() {
        CHECK.sentence("Terms", "if there is none and the text ends too early (also if it is empty), it is the length of the text.");
        fault("", 0);
        String[] whole = {"c1/2:3", "v1@2", "x1@2=3@4", "s1", "w1", "a;a"};
        for (String order : whole) {
            for (int length = 1; length < order.length(); length++) {
                String text = order.substring(0, length);
                if (!text.equals("a")) fault(text, length);
            }
            faultless(order);
        }
        fault(orders(39) + ";", 78);
        fault(orders(39) + ";s", 79);
        fault(orders(39) + ";v1", 80);
        fault(orders(38) + ";v1@", 79);
        fault(orders(38) + ";v10@", 80);
        NurseryPlaces x = with("c1/2:3");
        x.wipe();
        due("what stood on the pad before does not count", x.fault(), 0);
        Texts.put(x, "c1/2:");
        due("neither behind the end", x.fault(), 5);
    }

    private static void putAppends() {
        CHECK.sentence("Promise 24", "Appends characters to the pad.");
        NurseryPlaces x = new NurseryPlaces();
        x.put(Texts.pack("w1"));
        x.put(Texts.pack("2;w3"));
        x.put(Texts.pack("0"));
        due("w12;w30", x.carryOut(), 2);
        due("the week", x.count(0), 42);
    }

    private static void putAsNumber() {
        CHECK.sentence("Promise 24", "its lowest 8 bits are the last character, the next 8 bits the one before, and so on");
        NurseryPlaces x = new NurseryPlaces();
        due("w45: the codes 119, 52, 53", x.put((119 << 16) + (52 << 8) + 53), 3);
        x.carryOut();
        due("the week", x.count(0), 45);
        due("c2/3:456: eight characters", x.put(0x63322F333A343536L), 8);
        due("no fault", x.carryOut(), 1);
        due("the age", x.ofChild(0, 0), 2);
        due("the family", x.ofChild(0, 1), 3);
        due("the wish", x.ofChild(0, 2), 456);
    }

    private static void putLength() {
        CHECK.sentence("Promise 24", "- `characters`: 1 to 8 characters");
        long characters = 0;
        for (int count = 1; count <= 8; count++) {
            characters = characters << 8 | 'a';
            due("put() of " + count, new NurseryPlaces().put(characters), count);
        }
        unchanged("put() of none", -2, Nurseries::busy, x -> x.put(0));
    }

    private static void putThen() {
        CHECK.sentence("Promise 24", "Returns the length of the pad then");
        NurseryPlaces x = new NurseryPlaces();
        due("one", x.put('a'), 1);
        due("eight more", x.put(Texts.pack("aaaaaaaa")), 9);
        due("count(12)", x.count(12), 9);
        due("it is no change", x.count(13), 0);
    }

    private static void putNoCharacter() {
        CHECK.sentence("Promise 24", "BAD_VALUE if there is no character, a code is not 33 to 126, or a bit above 8 bits that are 0 is not 0");
        unchanged("put(0)", -2, Nurseries::busy, x -> x.put(0));
        unchanged("put(256)", -2, Nurseries::busy, x -> x.put(256));
        unchanged("put(0x6100)", -2, Nurseries::busy, x -> x.put(0x6100));
        unchanged("put(0x6161616161616100)", -2, Nurseries::busy, x -> x.put(0x6161616161616100L));
        unchanged("put(MIN)", -2, Nurseries::busy, x -> x.put(Long.MIN_VALUE));
    }

    private static void putCode() {
        CHECK.sentence("Promise 24", "a code is not 33 to 126");
        for (long code = 1; code <= 255; code++) {
            boolean isGood = code >= 33 && code <= 126;
            for (int place = 0; place < 8; place++) {
                int at = place;
                long before = (1L << 8 * at) - 1 & 0x6161616161616161L;
                long characters = before | code << 8 * at;
                int answer = isGood ? at + 1 : -2;
                due("put(" + characters + "), code " + code + " at " + at, new NurseryPlaces().put(characters), answer);
            }
        }
        for (int code : new int[] {32, 127, 128, 255}) {
            unchanged("put(" + code + ")", -2, Nurseries::busy, x -> x.put(code));
            unchanged("put() with " + code + " in front", -2, Nurseries::busy, x -> x.put((long) code << 56 | 0x61616161616161L));
            unchanged("put() with " + code + " behind", -2, Nurseries::busy, x -> x.put(0x6161616161616100L | code));
        }
    }

    private static void putBitAbove() {
        CHECK.sentence("Promise 24", "8 bits that are 0 mean that there are no more characters, and everything above them has to be 0, too.");
        for (int zero = 1; zero < 8; zero++) {
            long characters = (1L << 8 * zero) - 1 & 0x6161616161616161L;
            due("put(" + characters + ")", new NurseryPlaces().put(characters), zero);
            for (int bit = 8 * zero + 8; bit < 64; bit++) {
                long more = characters | 1L << bit;
                due("put(" + more + ")", new NurseryPlaces().put(more), -2);
            }
        }
        unchanged("put(0x610061)", -2, Nurseries::busy, x -> x.put(0x610061));
        unchanged("put(0x6100000000000061)", -2, Nurseries::busy, x -> x.put(0x6100000000000061L));
        unchanged("put(0x8000000000000061)", -2, Nurseries::busy, x -> x.put(0x8000000000000061L));
    }

    private static void putTooMany() {
        CHECK.sentence("Promise 24", "TOO_MANY if the pad would be longer than 80.");
        for (int length = 73; length <= 80; length++) {
            String before = "a".repeat(length);
            due("8 characters behind " + length, with(before).put(0x6262626262626262L), -4);
            due("as many as there is room for, and one", with(before).put(Texts.pack("b".repeat(81 - length))), -4);
            if (length < 80) due("as many as there is room for", with(before).put(Texts.pack("b".repeat(80 - length))), 80);
        }
        due("8 characters behind 72", with("a".repeat(72)).put(0x6262626262626262L), 80);
        unchanged("8 characters behind 73", -4, () -> with("a".repeat(73)), x -> x.put(0x6262626262626262L));
        unchanged("1 character behind 80", -4, () -> with("a".repeat(80)), x -> x.put('b'));
        NurseryPlaces x = with(orders(40) + ";");
        due("80 characters", x.count(12), 80);
        x.put(Texts.pack("a;a"));
        due("the fault is behind the end still", x.fault(), 80);
        due("wipe()", x.wipe(), 80);
        due("there is room again", x.put('a'), 1);
    }

    private static void wipeEmpties() {
        CHECK.sentence("Promise 25", "Empties the pad, and returns the length that it had.");
        due("an empty one", new NurseryPlaces().wipe(), 0);
        due("one character", with("a").wipe(), 1);
        NurseryPlaces x = with("a".repeat(80));
        due("80 characters", x.wipe(), 80);
        due("the length", x.count(12), 0);
        due("once more", x.wipe(), 0);
        due("it is no change", x.count(13), 0);
        x = with("w1;");
        x.wipe();
        Texts.put(x, "w2");
        due("only what was put behind it", x.carryOut(), 1);
        due("the week", x.count(0), 2);
    }

    private static void faultOrNone() {
        CHECK.sentence("Promise 26", "Returns the fault of the pad, NONE if there is none.");
        unchanged("a text without a fault", NurseryPlaces.NONE, Nurseries::busy, x -> x.fault());
        unchanged("an empty one", 0, NurseryPlaces::new, x -> x.fault());
        unchanged("one with a fault", 1, () -> with("aa"), x -> x.fault());
        NurseryPlaces x = new NurseryPlaces();
        String text = "c1/23:456;a";
        int[] faults = {1, -9, 3, -9, -9, 6, -9, -9, -9, 10, -9};
        for (int i = 0; i < text.length(); i++) {
            x.put(text.charAt(i));
            int whole = i >= 6 && i <= 8 || i == 10 ? -6 : i + 1;
            due("fault of " + text.substring(0, i + 1), x.fault(), faults[i] == -9 ? whole : faults[i]);
        }
    }

    private static void carryOutInOrder() {
        CHECK.sentence("Promise 27", "Carries the orders of the pad out, one after the other");
        NurseryPlaces x = Nurseries.withPlaces(1);
        due("carryOut()", Texts.carryOut(x, "w3;c10/0:1;w1;a;c20/0:2;v0@0;w1"), 7);
        due("0 came in week 3", x.ofChild(0, 12), 3);
        due("and was 11 in week 4", x.ofChild(0, 0), 11);
        due("1 came behind the admission", x.ofChild(1, 3), 0);
        due("in week 4", x.ofChild(1, 12), 4);
        due("the visit took place", x.count(9), 1);
        due("40 orders", Texts.carryOut(x, orders(40)), 40);
        due("20 orders", Texts.carryOut(x, "w52" + ";w52".repeat(19)), 20);
        due("the week", x.count(0), 5 + 20 * 52);
    }

    private static void carryOutUpToAnError() {
        CHECK.sentence("Promise 27", "up to the first one that returns an error, and empties the pad.");
        String[] errors = {"c73/0:1", "c0/16:1", "c0/0:0", "v1@0", "v0@0", "x0@0=1@0", "x0@0=0@1", "s1", "w0", "w53", "w1023"};
        for (String error : errors) {
            NurseryPlaces x = Nurseries.withCarers(1);
            x.child(10, 0, 3);
            due("2 orders before " + error, Texts.carryOut(x, "w1;w2;" + error + ";w4;a"), 2);
            due("the week", x.count(0), 3);
            due("nobody is placed behind it", x.count(5), 0);
            due("the pad is empty", x.count(12), 0);
            due("the only order " + error, Texts.carryOut(x, error), 0);
            due("the pad is empty", x.count(12), 0);
            due("the last order " + error, Texts.carryOut(x, "a;" + error), 1);
            due("one child", x.count(3), 1);
        }
        NurseryPlaces x = Nurseries.withCarers(1);
        due("a second time is an error", Texts.carryOut(x, "s0;s0;w1"), 1);
        due("week 0", x.count(0), 0);
        due("an order that does nothing is none", Texts.carryOut(x, "a;a;w52"), 3);
        for (int i = 0; i < 23; i++) x.child(0, 0, 1);
        due("too many children", Texts.carryOut(x, "c0/0:1;c0/0:1;w1"), 1);
        due("24 children", x.count(3), 24);
    }

    private static void carryOutOneChange() {
        CHECK.sentence("Promise 27", "This is a change (one, with all of them; also if none is carried out).");
        NurseryPlaces x = new NurseryPlaces();
        Texts.carryOut(x, "c1/1:1;w1;c2/2:2;w1");
        due("one change", x.count(13), 1);
        Texts.carryOut(x, "w0");
        due("one more, though none was carried out", x.count(13), 2);
        due("undo() of nothing", x.undo(), 1);
        due("2 children", x.count(3), 2);
        due("undo() of all orders", x.undo(), 0);
        due("no child", x.count(3), 0);
        due("week 0", x.count(0), 0);
    }

    private static void carryOutHowMany() {
        CHECK.sentence("Promise 27", "Returns how many orders were carried out");
        for (int count = 1; count <= 40; count++) due(count + " orders", with(orders(count)).carryOut(), count);
        due("none", with("w0;a").carryOut(), 0);
        due("one", with("a;w0;a").carryOut(), 1);
    }

    private static void carryOutBadText() {
        CHECK.sentence("Promise 27", "BAD_TEXT if the pad has a fault (then it stays).");
        unchanged("an empty pad", -3, NurseryPlaces::new, x -> x.carryOut());
        for (String text : new String[] {"a;", "a;w01", "w1;w1024", "w1;b", "aa", ";a", "a".repeat(80)}) {
            unchanged("carryOut() of " + text, -3, () -> with(text), x -> x.carryOut());
            NurseryPlaces x = with(text);
            x.carryOut();
            due("it stays", x.count(12), text.length());
            due("no order was carried out", x.count(0), 0);
        }
        NurseryPlaces x = with("w1;w");
        due("a fault", x.carryOut(), -3);
        x.put('2');
        due("none any more", x.carryOut(), 2);
        due("the week", x.count(0), 3);
    }
}
