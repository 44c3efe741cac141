import java.util.ArrayList;
import java.util.List;
import java.util.Random;

/** Tales for the tests that try out everything which the document compares. */
final class Tales {
    private Tales() {
    }

    /** From nobody to eight of them, from no STEPS to all, from no EVENTS to eight; the same ones each time. */
    static List<Tale> some() {
        List<Tale> all = new ArrayList<>();
        all.add(Tale.of("", ""));
        all.add(Tale.of("", Check.ALL_O).event(2, 0, 0));
        all.add(Tale.of("fr5", Check.ALL_O));
        all.add(Tale.of("ar1;bl2", "otu"));
        all.add(Tale.of("ar1;bl2", "otu").event(1, 2, 0).event(0, 0, 7));
        all.add(Tale.of("ar1;bl2", "s".repeat(23) + "o").event(2, 23, 0));
        all.add(Tale.of(Check.EIGHT, Check.ALL_O).ribboned(30));
        all.add(Tale.of(Check.EIGHT, Check.ALL_O).ribboned(2));
        for (int seed = 1; seed <= 24; seed++) all.add(byLot(new Random(seed), seed % 9));
        return all;
    }

    private static Tale byLot(Random lots, int events) {
        Tale tale = Tale.of(dancers(lots), steps(lots)).ribboned(2 + lots.nextInt(lots.nextBoolean() ? 4 : 29));
        for (int i = 0; i < events; i++) tale = tale.event(lots.nextInt(3), lots.nextInt(9), lots.nextInt(5));
        return tale;
    }

    private static String dancers(Random lots) {
        StringBuilder letters = new StringBuilder("abcdefghijkl"), text = new StringBuilder();
        for (int left = 2 + lots.nextInt(7); left > 0; left--) {
            int i = lots.nextInt(letters.length());
            text.append(letters.charAt(i)).append(lots.nextBoolean() ? 'r' : 'l').append(lots.nextInt(3));
            if (left > 1) text.append(';');
            letters.deleteCharAt(i);
        }
        return text.toString();
    }

    /** Half of them danced back, so that some end with none on. */
    private static String steps(Random lots) {
        StringBuilder there = new StringBuilder(), back = new StringBuilder();
        for (int i = 1 + lots.nextInt(11); i > 0; i--) {
            char step = "ooouuust".charAt(lots.nextInt(8));
            there.append(step);
            back.insert(0, step == 'o' ? 'u' : step == 'u' ? 'o' : step);
        }
        return lots.nextBoolean() ? there + "t" + back : there.toString();
    }
}
