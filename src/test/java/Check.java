/** What the tests share: counting wrong answers, telling texts, numbers beside a range. */
final class Check {
    static final int NONE = MayPole.NONE, BAD = MayPole.BAD, NOT = MayPole.NOT, FULL = MayPole.FULL;
    static final int NULL = -11, INDEX = -12, CAST = -13, STORE = -14, SIZE = -15;
    static final int LEAST = Integer.MIN_VALUE, MOST = Integer.MAX_VALUE;
    static final long BAD_LONG = Long.MIN_VALUE + 2;
    static final String ALL_O = "oooooooooooooooooooooooo";
    static final String EIGHT = "ar0;bl1;cr2;dl3;er4;fl5;gr6;hl7";

    private static int wrong = 0;
    private static String words = "";

    private Check() {
    }

    /** Names the document's words that the answers from here on belong to. */
    static void sentence(String ofTheDocument) {
        words = "\"" + ofTheDocument + "\": ";
    }

    static void due(String call, long got, long want) {
        if (got == want) return;
        wrong++;
        System.out.println(words + call + " answered " + got + ", due is " + want);
    }

    static void tell(MayPole pole, int text, String bytes) {
        for (int i = 0; i < bytes.length(); i++) {
            due("type(" + text + ", " + bytes.charAt(i) + ")", pole.type(text, bytes.charAt(i)), i + 1);
        }
    }

    static MayPole told(String dancers, String steps) {
        MayPole pole = new MayPole();
        tell(pole, 0, dancers);
        tell(pole, 1, steps);
        return pole;
    }

    static void layAll(MayPole pole, int s, int form, int... items) {
        due("sheet", pole.sheet(s, form, items.length), items.length);
        for (int i = 0; i < items.length; i++) due("lay", pole.lay(s, form, i, items[i]), 1);
    }

    /** Numbers that are not from low to high: the next ones, the farthest, and some that a cast or mask would let in. */
    static int[] beside(int low, int high) {
        return new int[] {low - 1, high + 1, LEAST, MOST, low + 256, low + 65536, high - 256, LEAST + high};
    }

    static void end(String name) {
        System.out.println(wrong == 0 ? name + ": all answers are as due" : name + ": " + wrong + " are not as due");
        if (wrong != 0) System.exit(1);
    }
}
