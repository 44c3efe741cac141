import java.util.ArrayList;
import java.util.List;

/** What is told to a MayPole, so that a test can alter one thing of it and tell it to a new one. */
record Tale(String dancers, String steps, int length, List<int[]> events, List<int[]> seen) {
    static Tale of(String dancers, String steps) {
        return new Tale(dancers, steps, 20, List.of(), List.of());
    }

    Tale danced(String others) {
        return new Tale(dancers, others, length, events, seen);
    }

    Tale by(String others) {
        return new Tale(others, steps, length, events, seen);
    }

    Tale ribboned(int v) {
        return new Tale(dancers, steps, v, events, seen);
    }

    Tale event(int kind, int beat, int number) {
        return with(plus(events, kind, beat, number));
    }

    Tale with(List<int[]> others) {
        return new Tale(dancers, steps, length, others, seen);
    }

    Tale saw(int beat, int many) {
        return new Tale(dancers, steps, length, events, plus(seen, beat, many));
    }

    /** With just those EVENTS of which the bit is set. */
    Tale only(int set) {
        List<int[]> left = new ArrayList<>();
        for (int e = 0; e < events.size(); e++) {
            if ((set >> e & 1) != 0) left.add(events.get(e));
        }
        return with(left);
    }

    int allEvents() {
        return (1 << events.size()) - 1;
    }

    int many() {
        return (dancers.length() + 1) / 4;
    }

    /** Sets one byte of one of DANCERS: 0 the letter, 1 the way, 2 the figure. */
    Tale altered(int dancer, int part, char b) {
        StringBuilder text = new StringBuilder(dancers);
        text.setCharAt(4 * dancer + part, b);
        return by(text.toString());
    }

    /** Sets one of STEPS; s stands where the text had none. */
    Tale stepped(int beat, char step) {
        StringBuilder text = new StringBuilder(steps);
        while (text.length() <= beat) text.append('s');
        text.setCharAt(beat, step);
        return danced(text.toString());
    }

    MayPole make() {
        MayPole pole = Check.told(dancers, steps);
        pole.ribbons(length);
        for (int i = 0; i < events.size(); i++) {
            int[] e = events.get(i);
            Check.due("event", pole.event(e[0], e[1], e[2]), i + 1);
        }
        for (int i = 0; i < seen.size(); i++) Check.due("seen", pole.seen(seen.get(i)[0], seen.get(i)[1]), i + 1);
        return pole;
    }

    int high() {
        return make().high(23, 0);
    }

    boolean comesOut() {
        MayPole pole = make();
        return seen.stream().allMatch(s -> pole.high(s[0], 0) == s[1]);
    }

    private static List<int[]> plus(List<int[]> list, int... row) {
        List<int[]> longer = new ArrayList<>(list);
        longer.add(row);
        return longer;
    }
}
