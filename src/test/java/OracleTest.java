import java.util.Random;

/** Runs of calls by lots, each answer held against the Oracle's. */
public final class OracleTest {
    /** An object is used for 512 calls; a turn makes 36 at most. */
    private static final int RUNS = 400, MOST_CALLS = 512 - 36;
    private static final int[] ODD = {-1, 0, 1, 2, 3, 7, 8, 11, 12, 23, 24, 60, 61, 120, 121, Integer.MAX_VALUE, Integer.MIN_VALUE};

    private final Random lots;
    private final MayPole pole = new MayPole();
    private final Oracle oracle = new Oracle();
    private final int run;
    private int calls = 0;

    private OracleTest(int run) {
        this.run = run;
        lots = new Random(run);
    }

    public static void main(String[] args) {
        for (int run = 0; run < RUNS; run++) new OracleTest(run).dance();
        Check.end("OracleTest");
    }

    private void dance() {
        tell(0, dancers());
        tell(1, steps());
        if (lots.nextInt(3) > 0) same("ribbons", pole.ribbons(2), oracle.ribbons(2));
        for (int i = lots.nextInt(6); i > 0; i--) tellEvent();
        while (calls < MOST_CALLS) {
            switch (lots.nextInt(9)) {
                case 0: change(); break;
                case 1: plan(); break;
                case 2: see(); break;
                case 3: case 4: lay(); break;
                default: look(); break;
            }
        }
    }

    private void same(String call, long got, long want) {
        calls++;
        Check.due("run " + run + ": " + call, got, want);
    }

    /** Mostly from 0 below the bound, now and then anything. */
    private int some(int bound) {
        return lots.nextInt(25) == 0 ? ODD[lots.nextInt(ODD.length)] : lots.nextInt(bound);
    }

    private String dancers() {
        StringBuilder all = new StringBuilder();
        int left = 4095;
        for (int i = 1 + lots.nextInt(8); i > 0; i--) {
            int place = lots.nextInt(12);
            while ((left >> place & 1) == 0) place = (place + 1) % 12;
            left &= ~(1 << place);
            if (all.length() > 0) all.append(';');
            all.append((char) ('a' + place)).append("rl".charAt(lots.nextInt(2))).append(lots.nextInt(3));
        }
        return all.toString();
    }

    /** A dance, often danced back from some BEAT on, so that much is unwound. */
    private String steps() {
        StringBuilder all = new StringBuilder();
        int n = lots.nextInt(25);
        String kinds = lots.nextBoolean() ? "oouust" : "oououououuoust";
        for (int i = 0; i < n; i++) all.append(kinds.charAt(lots.nextInt(kinds.length())));
        if (n > 11 || lots.nextBoolean()) return all.toString();
        all.append('t');
        for (int i = n - 1; i >= 0; i--) {
            char c = all.charAt(i);
            all.append(c == 'o' ? 'u' : c == 'u' ? 'o' : c);
        }
        return all.toString();
    }

    private void tell(int text, String bytes) {
        same("wipe", pole.wipe(text), oracle.wipe(text));
        for (int i = 0; i < bytes.length(); i++) {
            same("type " + bytes.charAt(i), pole.type(text, bytes.charAt(i)), oracle.type(text, bytes.charAt(i)));
        }
        same("fault", pole.fault(text), oracle.fault(text));
    }

    private void tellEvent() {
        int kind = some(3), beat = some(24), number = some(8);
        same("event", pole.event(kind, beat, number), oracle.event(kind, beat, number));
    }

    private void change() {
        int text = some(2);
        switch (lots.nextInt(8)) {
            case 0: tell(0, dancers()); break;
            case 1: tell(1, steps()); break;
            case 2: tellEvent(); break;
            case 3: same("back", pole.back(), oracle.back()); break;
            case 4: same("undo", pole.undo(text), oracle.undo(text)); break;
            case 5:
                int length = lots.nextBoolean() ? some(5) : some(33);
                same("ribbons", pole.ribbons(length), oracle.ribbons(length));
                break;
            case 6:
                int b = lots.nextInt(3) == 0 ? some(256) : "abclrl0129;oust".charAt(lots.nextInt(15));
                same("type", pole.type(text, b), oracle.type(text, b));
                break;
            default: same("forget", pole.forget(), oracle.forget()); break;
        }
        for (int t = 0; t < 2; t++) same("fault", pole.fault(t), oracle.fault(t));
    }

    private void look() {
        int beat = some(24), d = some(8), what = some(3), i = some(20);
        switch (lots.nextInt(12)) {
            case 0: same("dancer", pole.dancer(d, what), oracle.dancer(d, what)); break;
            case 1: same("steps", pole.steps(beat), oracle.steps(beat)); break;
            case 2: same("at", pole.at(beat, d, what), oracle.at(beat, d, what)); break;
            case 3: same("high", pole.high(beat, what), oracle.high(beat, what)); break;
            case 4: same("weave", pole.weave(i, what), oracle.weave(i, what)); break;
            case 5: same("shows", pole.shows(d), oracle.shows(d)); break;
            case 6: same("sum", pole.sum(what), oracle.sum(what)); break;
            case 7: same("run", pole.run(what), oracle.run(what)); break;
            case 8: same("bare", pole.bare(), oracle.bare()); break;
            case 9: same("top", pole.top(), oracle.top()); break;
            case 10: same("lacks", pole.lacks(), oracle.lacks()); break;
            default:
                int which = some(9);
                same("count " + which, pole.count(which), oracle.count(which));
                break;
        }
    }

    private void plan() {
        int beat = some(24), d = some(4), what = some(2);
        switch (lots.nextInt(4)) {
            case 0: same("step", pole.step(beat, what), oracle.step(beat, what)); break;
            case 1: same("begin", pole.begin(d, what), oracle.begin(d, what)); break;
            case 2: same("dress", pole.dress(d, what), oracle.dress(d, what)); break;
            default: same("spare", pole.spare(what - 1), oracle.spare(what - 1)); break;
        }
    }

    private void see() {
        int beat = some(24), d = some(8), what = some(2);
        switch (lots.nextInt(8)) {
            case 0:
                // Mostly what is so, or else nothing would ever come out.
                int many = lots.nextInt(3) == 0 ? some(4) : Math.max(0, oracle.high(beat, 0));
                same("seen", pole.seen(beat, many), oracle.seen(beat, many));
                break;
            case 1: same("never", pole.never(), oracle.never()); break;
            case 2: same("ways", pole.ways(d), oracle.ways(d)); break;
            case 3: same("lengths", pole.lengths(), oracle.lengths()); break;
            case 4: same("ask", pole.ask(), oracle.ask()); break;
            case 5:
                int c = some(17);
                same("chance", pole.chance(c, beat, what), oracle.chance(c, beat, what));
                break;
            default:
                int seed = lots.nextInt(), n = some(25);
                same("dances", pole.dances(seed, n, what), oracle.dances(seed, n, what));
                break;
        }
    }

    private void lay() {
        int s = some(4), t = some(4), form = some(3), i = some(6), j = some(6), n = some(9);
        int v = lots.nextInt(3) == 0 ? lots.nextInt() : some(8);
        switch (lots.nextInt(10)) {
            case 0: same("sheet", pole.sheet(s, form, n), oracle.sheet(s, form, n)); break;
            case 1: same("write", pole.write(s), oracle.write(s)); break;
            case 2: same("read", pole.read(s), oracle.read(s)); break;
            case 3: same("copy", pole.copy(s, i, t, j, n), oracle.copy(s, i, t, j, n)); break;
            case 4: same("get", pole.get(s, form, i), oracle.get(s, form, i)); break;
            case 5:
                if (lots.nextInt(4) == 0) same("lose", pole.lose(s), oracle.lose(s));
                break;
            default: same("lay", pole.lay(s, form, i, v), oracle.lay(s, form, i, v)); break;
        }
        same("finding", pole.count(8), oracle.count(8));
    }
}
