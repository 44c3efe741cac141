import java.util.ArrayList;
import java.util.List;
import java.util.function.Function;
import java.util.function.Supplier;
import java.util.function.ToLongFunction;

/**
 * "Refusals, the first that fits, in the order told at each act: BAD -2, NULL, NOT -3, FULL -4, other
 * FINDINGS. They change nothing (FINDINGS but count() 8)." Each refused call is made on one of two
 * objects told alike; then both must answer alike, whatever is asked.
 */
public final class RefusalsTest {
    private static final int NO_FINDING = 0;

    private record Refused(String call, ToLongFunction<MayPole> act, long answer, int finding) {
    }

    private final String name;
    private final Supplier<MayPole> state;
    private final List<List<Long>> unchanged = new ArrayList<>();
    private final int findingBefore;

    private RefusalsTest(String name, Supplier<MayPole> state) {
        this.name = name;
        this.state = state;
        for (Function<MayPole, List<Long>> part : Probe.PARTS) unchanged.add(part.apply(state.get()));
        findingBefore = state.get().count(8);
    }

    public static void main(String[] args) {
        Check.sentence("They change nothing (FINDINGS but count() 8)");
        RefusalsTest fresh = new RefusalsTest("a new one", MayPole::new);
        RefusalsTest some = new RefusalsTest("some told", RefusalsTest::someTold);
        RefusalsTest full = new RefusalsTest("all full", RefusalsTest::allFull);
        RefusalsTest faulty = new RefusalsTest("with FAULTS", RefusalsTest::withFaults);
        for (RefusalsTest each : new RefusalsTest[] {fresh, some, full, faulty}) each.all(badInAnyState());
        fresh.all(refusedByNew());
        faulty.all(noSuchDancer(0));
        some.all(noSuchDancer(3));
        some.all(refusedBySome());
        full.all(noSuchDancer(8));
        full.all(refusedByFull());
        Check.end("RefusalsTest");
    }

    private static MayPole someTold() {
        MayPole p = Tale.of("ar1;dl2;gl3", "oouuotuo").ribboned(3).event(1, 1, 0).event(2, 9, 1).saw(1, 1).make();
        Check.layAll(p, 0, 0, 5, -6, 7, 8, 9);
        Check.layAll(p, 1, 1, 300, -300, 1);
        Check.layAll(p, 3, 2, 70000, -70000);
        p.lay(3, 1, 0, 0);
        return p;
    }

    private static MayPole allFull() {
        Tale tale = Tale.of(Check.EIGHT, "oouuotuouuootoouuosuoouu").ribboned(30);
        int[][] events = {{0, 1, 0}, {1, 3, 1}, {2, 20, 2}, {1, 8, 3}, {0, 9, 4}, {2, 22, 5}, {1, 17, 6}, {0, 23, 7}};
        for (int i = 0; i < 8; i++) tale = tale.event(events[i][0], events[i][1], events[i][2]).saw(0, 4);
        MayPole p = tale.make();
        for (int s = 0; s <= 2; s++) {
            p.sheet(s, s, 60);
            p.write(s);
            p.lay(s, s, 59, -1);
        }
        p.sheet(3, 0, 0);
        return p;
    }

    private static MayPole withFaults() {
        MayPole p = Tale.of("ar1;bl2;", "ootuux").event(1, 1, 0).saw(23, 1).make();
        p.sheet(2, 1, 4);
        p.lose(0);
        return p;
    }

    private void all(List<Refused> calls) {
        for (Refused refused : calls) {
            String call = name + ": " + refused.call();
            MayPole p = state.get();
            Check.due(call, refused.act().applyAsLong(p), refused.answer());
            int due = refused.finding() == NO_FINDING ? findingBefore : refused.finding();
            Check.due(call + ", then count(8)", p.count(8), due);
            for (int i = 0; i < unchanged.size(); i++) {
                MayPole called = state.get();
                refused.act().applyAsLong(called);
                boolean alike = Probe.PARTS.get(i).apply(called).equals(unchanged.get(i));
                Check.due(call + " left part " + i + " as it was", alike ? 1 : 0, 1);
            }
        }
    }

    private static Refused bad(String call, ToLongFunction<MayPole> act) {
        return new Refused(call, act, Check.BAD, NO_FINDING);
    }

    private static Refused found(String call, int answer, ToLongFunction<MayPole> act) {
        return new Refused(call, act, answer, -10 - answer);
    }

    private static List<Refused> badInAnyState() {
        List<Refused> all = new ArrayList<>();
        badTexts(all);
        badEvents(all);
        badBeats(all);
        badWhats(all);
        badSheets(all);
        for (int v : Check.beside(2, 30)) all.add(bad("ribbons(" + v + ")", p -> p.ribbons(v)));
        for (int i : Check.beside(0, 119)) all.add(bad("weave(" + i + ", 0)", p -> p.weave(i, 0)));
        for (int colour : Check.beside(0, 9)) all.add(bad("shows(" + colour + ")", p -> p.shows(colour)));
        for (int i : Check.beside(-1, 1)) all.add(bad("spare(" + i + ")", p -> p.spare(i)));
        for (int many : Check.beside(0, 120)) all.add(bad("seen(0, " + many + ")", p -> p.seen(0, many)));
        for (int n : Check.beside(0, 24)) all.add(bad("dances(0, " + n + ", 0)", p -> p.dances(0, n, 0)));
        for (int c : Check.beside(0, 16)) {
            all.add(new Refused("chance(" + c + ", 0, 0)", p -> p.chance(c, 0, 0), Check.BAD_LONG, NO_FINDING));
        }
        return all;
    }

    private static void badTexts(List<Refused> all) {
        for (int text : Check.beside(0, 1)) {
            all.add(bad("type(" + text + ", 111)", p -> p.type(text, 'o')));
            all.add(bad("wipe(" + text + ")", p -> p.wipe(text)));
            all.add(bad("undo(" + text + ")", p -> p.undo(text)));
            all.add(bad("fault(" + text + ")", p -> p.fault(text)));
        }
        for (int b : Check.beside(0, 255)) {
            all.add(bad("type(0, " + b + ")", p -> p.type(0, b)));
            all.add(bad("type(1, " + b + ")", p -> p.type(1, b)));
        }
    }

    private static void badEvents(List<Refused> all) {
        for (int kind : Check.beside(0, 2)) all.add(bad("event(" + kind + ", 0, 0)", p -> p.event(kind, 0, 0)));
        for (int number : Check.beside(0, 7)) all.add(bad("event(0, 0, " + number + ")", p -> p.event(0, 0, number)));
    }

    private static void badBeats(List<Refused> all) {
        for (int beat : Check.beside(0, 23)) {
            all.add(bad("steps(" + beat + ")", p -> p.steps(beat)));
            all.add(bad("event(0, " + beat + ", 0)", p -> p.event(0, beat, 0)));
            all.add(bad("at(" + beat + ", 0, 0)", p -> p.at(beat, 0, 0)));
            all.add(bad("high(" + beat + ", 0)", p -> p.high(beat, 0)));
            all.add(bad("step(" + beat + ", 0)", p -> p.step(beat, 0)));
            all.add(bad("seen(" + beat + ", 0)", p -> p.seen(beat, 0)));
            all.add(new Refused("chance(0, " + beat + ", 0)", p -> p.chance(0, beat, 0), Check.BAD_LONG, NO_FINDING));
        }
    }

    private static void badWhats(List<Refused> all) {
        for (int what : Check.beside(0, 2)) {
            all.add(bad("dancer(0, " + what + ")", p -> p.dancer(0, what)));
            all.add(bad("at(0, 0, " + what + ")", p -> p.at(0, 0, what)));
            all.add(bad("weave(0, " + what + ")", p -> p.weave(0, what)));
            all.add(bad("sum(" + what + ")", p -> p.sum(what)));
        }
        for (int what : Check.beside(0, 1)) {
            all.add(bad("high(0, " + what + ")", p -> p.high(0, what)));
            all.add(bad("run(" + what + ")", p -> p.run(what)));
            all.add(bad("step(0, " + what + ")", p -> p.step(0, what)));
            all.add(bad("begin(0, " + what + ")", p -> p.begin(0, what)));
            all.add(bad("dress(0, " + what + ")", p -> p.dress(0, what)));
            all.add(bad("dances(0, 5, " + what + ")", p -> p.dances(0, 5, what)));
            all.add(new Refused("chance(0, 0, " + what + ")", p -> p.chance(0, 0, what), Check.BAD_LONG, NO_FINDING));
        }
        for (int what : Check.beside(0, 8)) all.add(bad("count(" + what + ")", p -> p.count(what)));
    }

    private static void badSheets(List<Refused> all) {
        for (int s : Check.beside(0, 3)) {
            all.add(bad("read(" + s + ")", p -> p.read(s)));
            all.add(bad("sheet(" + s + ", 0, 1)", p -> p.sheet(s, 0, 1)));
            all.add(bad("sheet(" + s + ", 0, -1)", p -> p.sheet(s, 0, -1)));
            all.add(bad("lose(" + s + ")", p -> p.lose(s)));
            all.add(bad("lay(" + s + ", 0, 0, 1)", p -> p.lay(s, 0, 0, 1)));
            all.add(new Refused("get(" + s + ", 0, 0)", p -> p.get(s, 0, 0), Check.LEAST, NO_FINDING));
            all.add(bad("copy(" + s + ", 0, 0, 0, 1)", p -> p.copy(s, 0, 0, 0, 1)));
            all.add(bad("copy(0, 0, " + s + ", 0, 1)", p -> p.copy(0, 0, s, 0, 1)));
            all.add(bad("write(" + s + ")", p -> p.write(s)));
        }
        for (int form : Check.beside(0, 2)) {
            all.add(bad("sheet(0, " + form + ", 1)", p -> p.sheet(0, form, 1)));
            all.add(bad("sheet(0, " + form + ", -1)", p -> p.sheet(0, form, -1)));
            all.add(bad("lay(0, " + form + ", 0, 1)", p -> p.lay(0, form, 0, 1)));
            all.add(new Refused("get(0, " + form + ", 0)", p -> p.get(0, form, 0), Check.LEAST, NO_FINDING));
        }
        for (int n : new int[] {61, 256, Check.MOST}) all.add(bad("sheet(0, 0, " + n + ")", p -> p.sheet(0, 0, n)));
        for (int n : new int[] {-1, -256, Check.LEAST}) {
            all.add(found("sheet(0, 0, " + n + ")", Check.SIZE, p -> p.sheet(0, 0, n)));
        }
    }

    /** As many are there as told; so there is no such one from that number on. */
    private static List<Refused> noSuchDancer(int many) {
        List<Refused> all = new ArrayList<>();
        for (int d : Check.beside(0, many - 1)) {
            all.add(bad("dancer(" + d + ", 0)", p -> p.dancer(d, 0)));
            all.add(bad("at(0, " + d + ", 0)", p -> p.at(0, d, 0)));
            all.add(bad("begin(" + d + ", 0)", p -> p.begin(d, 0)));
            all.add(bad("dress(" + d + ", 0)", p -> p.dress(d, 0)));
            all.add(bad("ways(" + d + ")", p -> p.ways(d)));
        }
        return all;
    }

    private static List<Refused> refusedByNew() {
        List<Refused> all = noSuchDancer(0);
        for (int text = 0; text <= 1; text++) {
            int t = text;
            all.add(new Refused("undo(" + t + ")", p -> p.undo(t), Check.NOT, NO_FINDING));
        }
        all.add(new Refused("back()", MayPole::back, Check.NOT, NO_FINDING));
        for (int i = 0; i <= 3; i++) lostSheet(all, i);
        return all;
    }

    /** NULL comes ahead of all FINDINGS, so the numbers of items may be any. */
    private static void lostSheet(List<Refused> all, int s) {
        all.add(found("read(" + s + ")", Check.NULL, p -> p.read(s)));
        all.add(found("lose(" + s + ")", Check.NULL, p -> p.lose(s)));
        all.add(found("write(" + s + ")", Check.NULL, p -> p.write(s)));
        for (int item : new int[] {0, -1, 60, Check.MOST}) {
            all.add(found("lay(" + s + ", 1, " + item + ", 1)", Check.NULL, p -> p.lay(s, 1, item, 1)));
            all.add(new Refused("get(" + s + ", 1, " + item + ")", p -> p.get(s, 1, item), Check.LEAST, 1));
            for (int t = 0; t <= 3; t++) {
                int other = t;
                all.add(found("copy(" + s + ", " + item + ", " + t + ", 0, 1)", Check.NULL, p -> p.copy(s, item, other, 0, 1)));
                all.add(found("copy(" + t + ", " + item + ", " + s + ", 0, 1)", Check.NULL, p -> p.copy(other, item, s, 0, 1)));
            }
        }
    }

    /** SHEETS: 0 five bytes, 1 three shorts, 2 LOST, 3 two ints. */
    private static List<Refused> refusedBySome() {
        List<Refused> all = new ArrayList<>();
        lostSheet(all, 2);
        int[] forms = {0, 1, -1, 2}, sizes = {5, 3, -1, 2};
        for (int i : new int[] {0, 1, 3}) {
            int s = i, form = forms[i], size = sizes[i];
            for (int item : new int[] {-1, size, size + 1, 59, 60, Check.MOST, Check.LEAST}) {
                all.add(found("lay(" + s + ", " + form + ", " + item + ", 1)", Check.INDEX, p -> p.lay(s, form, item, 1)));
                all.add(new Refused("get(" + s + ", " + form + ", " + item + ")", p -> p.get(s, form, item), Check.LEAST, 2));
            }
            for (int other = 0; other <= 2; other++) {
                if (other != form) otherForm(all, s, other);
            }
            for (int[] c : new int[][] {{-1, 0, 1}, {0, -1, 1}, {0, 0, -1}, {0, 0, size + 1}, {size, 0, 1}, {0, size, 1}}) {
                all.add(found("copy(" + s + ", " + c[0] + ", " + s + ", " + c[1] + ", " + c[2] + ")", Check.INDEX,
                    p -> p.copy(s, c[0], s, c[1], c[2])));
            }
        }
        return all;
    }

    private static void otherForm(List<Refused> all, int s, int other) {
        int t = other == 2 ? 3 : other;
        for (int item : new int[] {0, -1, 60}) {
            all.add(found("lay(" + s + ", " + other + ", " + item + ", 1)", Check.CAST, p -> p.lay(s, other, item, 1)));
            all.add(new Refused("get(" + s + ", " + other + ", " + item + ")", p -> p.get(s, other, item), Check.LEAST, 3));
            all.add(found("copy(" + s + ", " + item + ", " + t + ", 0, 1)", Check.STORE, p -> p.copy(s, item, t, 0, 1)));
            all.add(found("copy(" + s + ", 0, " + t + ", " + item + ", 0)", Check.STORE, p -> p.copy(s, 0, t, item, 0)));
        }
    }

    private static List<Refused> refusedByFull() {
        List<Refused> all = new ArrayList<>();
        for (int b : new int[] {0, 'a', 'o', ';', 255}) {
            all.add(new Refused("type(0, " + b + ")", p -> p.type(0, b), Check.FULL, NO_FINDING));
            all.add(new Refused("type(1, " + b + ")", p -> p.type(1, b), Check.FULL, NO_FINDING));
        }
        for (int kind = 0; kind <= 2; kind++) {
            int k = kind;
            all.add(new Refused("event(" + k + ", 0, 0)", p -> p.event(k, 0, 0), Check.FULL, NO_FINDING));
            all.add(new Refused("event(" + k + ", 23, 7)", p -> p.event(k, 23, 7), Check.FULL, NO_FINDING));
        }
        all.add(new Refused("seen(0, 0)", p -> p.seen(0, 0), Check.FULL, NO_FINDING));
        all.add(new Refused("seen(23, 120)", p -> p.seen(23, 120), Check.FULL, NO_FINDING));
        all.add(found("lay(3, 0, 0, 1)", Check.INDEX, p -> p.lay(3, 0, 0, 1)));
        all.add(found("lay(2, 2, 60, 1)", Check.INDEX, p -> p.lay(2, 2, 60, 1)));
        all.add(found("copy(0, 0, 3, 0, 1)", Check.INDEX, p -> p.copy(0, 0, 3, 0, 1)));
        all.add(found("copy(0, 1, 0, 0, 60)", Check.INDEX, p -> p.copy(0, 1, 0, 0, 60)));
        all.add(found("copy(0, 0, 0, 0, 61)", Check.INDEX, p -> p.copy(0, 0, 0, 0, 61)));
        return all;
    }
}
