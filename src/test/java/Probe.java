import java.util.ArrayList;
import java.util.List;
import java.util.function.Function;

/**
 * All that can be asked of a MayPole, in parts of some 350 calls at most: an object is used for 512
 * alone, so each part is asked of an object of its own. The last parts also take off what was told,
 * one by one, which shows bytes that a FAULT hides and the order of EVENTS.
 */
final class Probe {
    static final List<Function<MayPole, List<Long>>> PARTS = List.of(
        Probe::counts, Probe::weave, p -> at(p, 0), p -> at(p, 1), p -> at(p, 2), Probe::plans, Probe::seen,
        Probe::sheets, Probe::texts, Probe::events);

    private Probe() {
    }

    private static List<Long> counts(MayPole p) {
        List<Long> all = new ArrayList<>();
        for (int what = 0; what <= 7; what++) all.add((long) p.count(what));
        for (int text = 0; text <= 1; text++) all.add((long) p.fault(text));
        for (int i = 0; i < 24; i++) all.add((long) p.dancer(i / 3, i % 3));
        for (int beat = 0; beat < 24; beat++) {
            all.add((long) p.steps(beat));
            all.add((long) p.high(beat, 0));
            all.add((long) p.high(beat, 1));
        }
        all.add(p.digest());
        return all;
    }

    private static List<Long> weave(MayPole p) {
        List<Long> all = new ArrayList<>();
        for (int i = 0; i < 81; i++) {
            for (int what = 0; what <= 2; what++) all.add((long) p.weave(i, what));
        }
        for (int colour = 0; colour <= 9; colour++) all.add((long) p.shows(colour));
        for (int what = 0; what <= 2; what++) all.add((long) p.sum(what));
        for (int what = 0; what <= 1; what++) all.add((long) p.run(what));
        all.add((long) p.bare());
        all.add((long) p.top());
        all.add((long) p.lacks());
        return all;
    }

    private static List<Long> at(MayPole p, int what) {
        List<Long> all = new ArrayList<>();
        for (int i = 0; i < 192; i++) all.add((long) p.at(i / 8, i % 8, what));
        return all;
    }

    private static List<Long> plans(MayPole p) {
        List<Long> all = new ArrayList<>();
        for (int i = 0; i < 48; i++) all.add((long) p.step(i / 2, i % 2));
        for (int i = 0; i < 16; i++) {
            all.add((long) p.begin(i / 2, i % 2));
            all.add((long) p.dress(i / 2, i % 2));
        }
        for (int i = -1; i <= 1; i++) all.add((long) p.spare(i));
        return all;
    }

    private static List<Long> seen(MayPole p) {
        List<Long> all = new ArrayList<>();
        for (int d = 0; d < 8; d++) all.add((long) p.ways(d));
        for (int i = 0; i < 96; i++) all.add(p.chance(i / 24 * 5, i % 24, i % 2));
        for (int i = 0; i < 50; i++) all.add((long) p.dances(i - 25, i / 2, i % 2));
        for (int again = 0; again < 2; again++) {
            all.add((long) p.never());
            all.add((long) p.lengths());
            all.add((long) p.ask());
            all.add((long) p.forget());
        }
        return all;
    }

    private static List<Long> sheets(MayPole p) {
        List<Long> all = new ArrayList<>();
        for (int s = 0; s <= 3; s++) {
            for (int form = 0; form <= 2; form++) {
                long first = p.get(s, form, 0);
                all.add(first);
                for (int i = 1; first != Check.LEAST && i <= 60; i++) all.add((long) p.get(s, form, i));
            }
            all.add((long) p.lose(s));
        }
        return all;
    }

    private static List<Long> texts(MayPole p) {
        List<Long> all = new ArrayList<>();
        for (int text = 0; text <= 1; text++) {
            for (int i = 0; i < 32; i++) {
                all.add((long) p.undo(text));
                all.add((long) p.fault(text));
                all.add((long) p.count(0));
                all.add(text == 0 ? (long) p.dancer(0, 2) : (long) p.steps(0));
            }
        }
        return all;
    }

    private static List<Long> events(MayPole p) {
        List<Long> all = new ArrayList<>();
        for (int i = 0; i < 9; i++) {
            all.add((long) p.back());
            all.add((long) p.count(6));
            all.add((long) p.never());
            for (int d = 0; d < 8; d++) all.add((long) p.at(23, d, 0));
            for (int beat = 0; beat < 24; beat += 3) all.add((long) p.high(beat, 0));
        }
        return all;
    }
}
