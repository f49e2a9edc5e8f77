/** Texts as put() takes them. */
final class Texts {
    private Texts() {
    }

    static long pack(String text) {
        long characters = 0;
        for (int i = 0; i < text.length(); i++) characters = characters << 8 | text.charAt(i);
        return characters;
    }

    static void put(NurseryPlaces nursery, String text) {
        for (int i = 0; i < text.length(); i += 8) nursery.put(pack(text.substring(i, Math.min(i + 8, text.length()))));
    }

    /** Writes a text on an empty pad, and carries it out. */
    static int carryOut(NurseryPlaces nursery, String text) {
        nursery.wipe();
        put(nursery, text);
        return nursery.carryOut();
    }
}
