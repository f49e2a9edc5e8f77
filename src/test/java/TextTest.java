/** Promises 24 to 27: put, wipe, fault, carryOut. */
public final class TextTest {
    private static final Check CHECK = new Check("TextTest");

    public static void main(String[] args) {
        put();
        putAtTheEnd();
        wipe();
        texts();
        faults();
        oldSigns();
        longTexts();
        carryOut();
        carryOutUpToAnError();
        carryOutIsOneChange();
        CHECK.finish();
    }

    private static void due(String call, int got, int want) {
        CHECK.due(call, got, want);
    }

    private static void put() {
        NurseryPlaces x = new NurseryPlaces();
        long[] bad = {0, 32, 127, 128, 255, 0x6100, 0x610061, 0x6100000000000061L, 0x2061, 0x6120, 0x7F61, -1,
            0x8061616161616161L, 0x2061616161616161L, Long.MIN_VALUE, 0x0100000000000061L, 0x6161616161616100L};
        for (long b : bad) due("put(" + b + ")", x.put(b), -2);
        due("nothing was put", x.count(12), 0);
        due("one character", x.put(33), 1);
        due("another one", x.put(126), 2);
        due("eight", x.put(0x2121212121212121L), 10);
        due("eight", x.put(0x7E7E7E7E7E7E7E7EL), 18);
        due("the length", x.count(12), 18);
        due("it is no change", x.count(13), 0);
        x.wipe();
        x.put(Texts.pack("w5"));
        x.put(Texts.pack("2;a"));
        due("the highest bits are the first character", x.carryOut(), 2);
        due("in this order", x.count(0), 52);
    }

    private static void putAtTheEnd() {
        NurseryPlaces x = new NurseryPlaces();
        for (int i = 1; i <= 9; i++) due("put", x.put(Texts.pack("aaaaaaaa")), 8 * i);
        x.put(Texts.pack("aaaaaa"));
        due("81 characters", x.put(Texts.pack("bbb")), -4);
        due("bad goes before too many", x.put(0x2061), -2);
        due("80 characters", x.put(Texts.pack("bb")), 80);
        due("81 characters", x.put('b'), -4);
        due("the length", x.count(12), 80);
        due("wipe", x.wipe(), 80);
        due("put", x.put('a'), 1);
    }

    private static void wipe() {
        NurseryPlaces x = new NurseryPlaces();
        due("wipe nothing", x.wipe(), 0);
        x.put(Texts.pack("abc"));
        due("wipe", x.wipe(), 3);
        due("the length", x.count(12), 0);
        due("it is no change", x.count(13), 0);
    }

    private static int faultOf(String text) {
        NurseryPlaces x = new NurseryPlaces();
        Texts.put(x, text);
        return x.fault();
    }

    private static void texts() {
        String[] good = {"a", "a;a", "c0/0:0", "c1023/1023:1023", "v0@0", "v1023@9", "x0@0=0@0", "x1023@9=10@1", "s0", "s1000", "s999",
            "s1023", "w0", "w10", "c7/1:3;a;v0@1;x0@1=2@3;s4;w5;a"};
        for (String text : good) due("fault of " + text, faultOf(text), -6);
    }

    private static void faults() {
        due("fault of nothing", faultOf(""), 0);
        String[] early = {"c", "c1", "c1/", "c1/2", "c1/2:", "v", "v1", "v1@", "x", "x1", "x1@", "x1@2", "x1@2=", "x1@2=3", "x1@2=3@",
            "s", "w", "a;", "w1;", "a;c1/2", "a;x0"};
        for (String text : early) due("fault of " + text, faultOf(text), text.length());
        String[] atTheEnd = {"b", "A", ";", "0", "aa", "a0", "a;;", "a;0", "a;A", "cc", "c/", "c01", "c00", "c1:", "c1@", "c1//", "c1/2/", "c1/02",
            "c1/2:03", "c1/2:3:", "c1/2:3@", "s1024", "s1030", "s1100", "s2000", "s9999", "s10230", "w00", "w1,", "w-", "v1=", "v1@a",
            "v1@12", "v1@00", "v1@;", "v@", "x1@2@", "x1@22", "x1@2=3=", "x1@2=3@44", "x1@2=a", "x1@2=03", "c1024", "v1024", "x1024", "c1/1024",
            "c1/2:1024", "x1@2=1024", "w1024", "s!", "s~"};
        for (String text : atTheEnd) {
            due("fault of " + text, faultOf(text), text.length() - 1);
            due("fault of " + text + "zz", faultOf(text + "zz"), text.length() - 1);
        }
    }

    /** What stood on the pad before must not be read behind the end. */
    private static void oldSigns() {
        String[] orders = {"c1/2:3", "v1@2", "x1@2=3@4", "s12", "w12;a"};
        for (String order : orders) {
            for (int length = 0; length < order.length(); length++) {
                NurseryPlaces x = new NurseryPlaces();
                Texts.put(x, order);
                x.wipe();
                String text = order.substring(0, length);
                Texts.put(x, text);
                boolean isWhole = text.matches("[sw]12?");
                due("fault of " + text + ", once " + order, x.fault(), isWhole ? -6 : length);
            }
        }
    }

    private static void longTexts() {
        StringBuilder text = new StringBuilder("a");
        while (text.length() < 79) text.append(";a");
        due("40 orders", faultOf(text.toString()), -6);
        due("and a ;", faultOf(text + ";"), 80);
        String start = text.substring(0, 74);
        String[] ends = {"c11/11", "c1/11:", "x1@2=3", "v1023@", "v1111@", "v10231", "x1@2=@", "s!!!!!", "s"};
        int[] faults = {80, 80, 80, 80, 78, 79, 79, 75, 75};
        for (int i = 0; i < ends.length; i++) due("fault of " + start + ends[i], faultOf(start + ends[i]), faults[i]);
        NurseryPlaces x = new NurseryPlaces();
        due("carry 40 orders out", Texts.carryOut(x, text.toString()), 40);
        StringBuilder weeks = new StringBuilder("w52");
        for (int i = 1; i < 20; i++) weeks.append(";w52");
        due("carry 20 times 52 weeks out", Texts.carryOut(x, weeks.toString()), 20);
        due("the week", x.count(0), 1040);
    }

    private static void carryOut() {
        NurseryPlaces x = new NurseryPlaces();
        due("nothing to carry out", x.carryOut(), -3);
        Texts.put(x, "a;b");
        due("a fault", x.carryOut(), -3);
        due("the pad stays", x.wipe(), 3);
        due("no change", x.count(13), 0);
        x.room(0, 20, 5, 5);
        x.room(20, 72, 5, 5);
        x.carer(0, 31, 0, 10);
        x.carer(1, 31, 0, 10);
        due("orders", Texts.carryOut(x, "c10/3:6;c30/4:24;c11/15:1023;a;v1@9;s1"), 6);
        due("the pad is empty", x.count(12), 0);
        int[] first = {10, 3, 6, 1, 0, 6};
        int[] second = {30, 4, 24, 1, 1, 24};
        int[] third = {11, 15, 1023, 1, 0, 1023};
        for (int what = 0; what < 6; what++) {
            due("ofChild(0, " + what + ")", x.ofChild(0, what), first[what]);
            due("ofChild(1, " + what + ")", x.ofChild(1, what), second[what]);
            due("ofChild(2, " + what + ")", x.ofChild(2, what), third[what]);
        }
        due("the visit", x.ofChild(1, 8), 9);
        due("carer 1 is sick", x.ofCarer(1, 4), 1);
        due("swap", Texts.carryOut(x, "x0@2=1@4;w3"), 2);
        due("sessions of 0", x.ofChild(0, 5), 2 + 16);
        due("sessions of 1", x.ofChild(1, 5), 8 + 4);
        due("the week", x.count(0), 3);
    }

    private static void carryOutUpToAnError() {
        NurseryPlaces x = new NurseryPlaces();
        x.room(0, 72, 5, 5);
        x.carer(0, 31, 0, 10);
        String[] wrong = {"c73/0:1", "c0/16:1", "c0/0:0", "v0@0", "v9@0", "x0@1=1@2", "s1", "w0", "w53", "w1023"};
        for (String order : wrong) {
            int week = x.count(0);
            due("up to " + order, Texts.carryOut(x, "w1;" + order + ";w1"), 1);
            due("the pad is empty", x.count(12), 0);
            due("one week", x.count(0), week + 1);
            due("none before " + order, Texts.carryOut(x, order + ";w1"), 0);
            due("no week", x.count(0), week + 1);
        }
    }

    private static void carryOutIsOneChange() {
        NurseryPlaces x = new NurseryPlaces();
        x.room(0, 72, 5, 5);
        due("orders", Texts.carryOut(x, "c1/1:1;c2/2:2;a;w2"), 4);
        due("two changes", x.count(13), 2);
        due("none is carried out", Texts.carryOut(x, "w0;w1"), 0);
        due("it is a change all the same", x.count(13), 3);
        due("undo", x.undo(), 2);
        due("two children", x.count(3), 2);
        x.put('a');
        due("undo", x.undo(), 1);
        due("no child", x.count(3), 0);
        due("week 0", x.count(0), 0);
        due("the pad stays", x.count(12), 1);
    }
}
