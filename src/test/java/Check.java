/** What the tests share: counting wrong answers, and telling texts. */
final class Check {
    static final int NONE = MayPole.NONE, BAD = MayPole.BAD, NOT = MayPole.NOT, FULL = MayPole.FULL;
    static final int NULL = -11, INDEX = -12, CAST = -13, STORE = -14, SIZE = -15;
    static final String ALL_O = "oooooooooooooooooooooooo";

    private static int wrong = 0;

    private Check() {
    }

    static void due(String call, long got, long want) {
        if (got == want) return;
        wrong++;
        System.out.println(call + " answered " + got + ", due is " + want);
    }

    static void tell(MayPole pole, int text, String bytes) {
        for (int i = 0; i < bytes.length(); i++) {
            due("type(" + text + ", " + bytes.charAt(i) + ")", pole.type(text, bytes.charAt(i)), i + 1);
        }
    }

    static MayPole told(String dancers, String steps) {
        MayPole pole = new MayPole();
        tell(pole, 0, dancers);
        tell(pole, 1, steps);
        return pole;
    }

    static void end(String name) {
        System.out.println(wrong == 0 ? name + ": all answers are as due" : name + ": " + wrong + " are not as due");
        if (wrong != 0) System.exit(1);
    }
}
