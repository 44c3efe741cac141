/** Promises 25 to 32: what was seen, chances, dances by a seed. */
public final class SeenTest {
    private static final long BAD_LONG = Long.MIN_VALUE + 2;
    private static final long ALL_LENGTHS = 0x7FFFFFFCL;

    public static void main(String[] args) {
        seen();
        forget();
        never();
        ways();
        lengths();
        ask();
        chance();
        chanceInLowestTerms();
        chanceOfManyEvents();
        dances();
        Check.end("SeenTest");
    }

    private static void seen() {
        MayPole p = new MayPole();
        int[][] bad = {{-1, 0}, {24, 0}, {0, -1}, {0, 121}};
        for (int[] b : bad) Check.due("bad seen", p.seen(b[0], b[1]), Check.BAD);
        for (int i = 1; i <= 8; i++) Check.due("seen", p.seen(23, 120), i);
        Check.due("seen FULL", p.seen(0, 0), Check.FULL);
        Check.due("BAD ahead of FULL", p.seen(24, 0), Check.BAD);
        Check.due("count(7)", p.count(7), 8);
    }

    private static void forget() {
        MayPole p = new MayPole();
        Check.due("forget none", p.forget(), 0);
        p.seen(0, 1);
        p.seen(0, 2);
        Check.due("what is seen cannot be", p.lengths(), 0);
        Check.due("forget", p.forget(), 2);
        Check.due("count(7)", p.count(7), 0);
        Check.due("nothing seen", p.lengths(), ALL_LENGTHS);
        Check.due("seen anew", p.seen(0, 0), 1);
    }

    private static void never() {
        MayPole p = Check.told("ar1;bl2", "o");
        Check.due("no events", p.never(), 0);
        p.event(2, 0, 0);
        p.event(0, 9, 0);
        p.event(1, 0, 1);
        Check.due("nothing seen", p.never(), 7);
        p.seen(0, 1);
        Check.due("had it alone not been", p.never(), 1);
        p.forget();
        p.seen(0, 0);
        Check.due("the others", p.never(), 6);
        p.seen(23, 1);
        Check.due("all that was seen", p.never(), 0);
    }

    private static void ways() {
        MayPole p = Check.told("ar1;bl2", "o");
        Check.due("nothing seen", p.ways(0), 3);
        p.seen(0, 1);
        Check.due("r", p.ways(0), 1);
        Check.due("l", p.ways(1), 2);
        p.forget();
        p.seen(23, 0);
        Check.due("l", p.ways(0), 2);
        Check.due("r", p.ways(1), 1);
        p.seen(22, 3);
        Check.due("neither", p.ways(1), 0);
        Check.due("as told still", p.dancer(0, 1), 0);
        Check.due("ways(2)", p.ways(2), Check.BAD);
        Check.due("ways(-1)", p.ways(-1), Check.BAD);
    }

    private static void lengths() {
        MayPole p = Check.told("ar1;gl2", Check.ALL_O);
        Check.due("nothing seen", p.lengths(), ALL_LENGTHS);
        p.seen(23, 4);
        Check.due("4 on", p.lengths(), ALL_LENGTHS & ~(1 << 2) & ~(1 << 3));
        p.forget();
        p.seen(23, 3);
        Check.due("3 on", p.lengths(), 1 << 3);
        p.seen(8, 2);
        Check.due("and 2 behind 8", p.lengths(), 1 << 3);
        p.seen(8, 1);
        Check.due("never", p.lengths(), 0);
        p.forget();
        p.event(2, 23, 0);
        p.seen(23, 2);
        Check.due("2 on", p.lengths(), 1 << 2);
        p.wipe(1);
        Check.due("other steps", p.lengths(), 0);
    }

    private static void ask() {
        MayPole p = Check.told("ar1;gl2", Check.ALL_O);
        // 2, 3 and more part behind 14 (2 by itself) and behind 20 (2, 3, the rest).
        Check.due("the last meeting tells most", p.ask(), 20);
        p.wipe(1);
        Check.tell(p, 1, "oooooooooooooooooo");
        Check.due("that of 14 then", p.ask(), 14);
        p.seen(14, 3);
        Check.due("of like ones the least", p.ask(), 0);
        p.seen(14, 1);
        Check.due("none at all", p.ask(), 0);
    }

    private static void fraction(MayPole p, int c, int beat, long above, long below) {
        Check.due("above " + c + " " + beat, p.chance(c, beat, 0), above);
        Check.due("below " + c + " " + beat, p.chance(c, beat, 1), below);
    }

    private static void chance() {
        MayPole p = Check.told("ar1;bl2", "so");
        fraction(p, 7, 0, 1, 1);
        fraction(p, 7, 1, 0, 1);
        p.event(2, 1, 0);
        fraction(p, 7, 0, 1, 1);
        fraction(p, 7, 1, 7, 16);
        fraction(p, 8, 23, 1, 2);
        fraction(p, 0, 23, 0, 1);
        fraction(p, 16, 23, 1, 1);
        int[][] bad = {{-1, 0, 0}, {17, 0, 0}, {0, -1, 0}, {0, 24, 0}, {0, 0, -1}, {0, 0, 2}};
        for (int[] b : bad) Check.due("bad chance", p.chance(b[0], b[1], b[2]), BAD_LONG);
    }

    private static void chanceInLowestTerms() {
        MayPole p = Check.told("ar1;bl2", "so");
        p.event(2, 1, 0);
        p.event(2, 0, 1);
        // Bare unless neither lets go: 1 - (12/16)^2.
        fraction(p, 4, 23, 7, 16);
        fraction(p, 5, 23, 135, 256);
        p.back();
        fraction(p, 5, 23, 5, 16);
        p.event(1, 1, 1);
        fraction(p, 5, 23, 5, 16);
    }

    private static void chanceOfManyEvents() {
        MayPole p = Check.told("ar1;bl2", "o");
        for (int i = 0; i < 8; i++) p.event(2, 0, 0);
        fraction(p, 1, 0, 4294967296L - 2562890625L, 4294967296L);
        fraction(p, 15, 0, 4294967295L, 4294967296L);
        fraction(p, 16, 0, 1, 1);
        p.wipe(0);
        fraction(p, 1, 0, 1, 1);
    }

    private static void dances() {
        MayPole p = Check.told("ar1;bl2", "");
        // SEED 0: 12345, then -1252980590 and so on: the lots are told by hand here.
        int lot = 0;
        StringBuilder steps = new StringBuilder();
        for (int i = 0; i < 24; i++) {
            lot = 1103515245 * lot + 12345;
            steps.append("oust".charAt((lot >>> 16) % 4));
        }
        Check.due("the first lot of seed 0 is 0", steps.charAt(0), 'o');
        MayPole q = Check.told("ar1;bl2", steps.toString());
        Check.due("high", p.dances(0, 24, 0), q.high(23, 0));
        Check.due("unwound", p.dances(0, 24, 1), q.sum(2));
        Check.due("n = 0", p.dances(0, 0, 0), 0);
        Check.due("n = 1", p.dances(0, 1, 0), 1);
        MayPole far = Check.told("ar1;bl2", Check.ALL_O);
        Check.due("in place of what is told", far.dances(0, 0, 0), 0);
        Check.due("a seed below 0", p.dances(-1, 24, 1), p.dances(-1, 24, 1));
        Check.due("n = 25", p.dances(0, 25, 0), Check.BAD);
        Check.due("n = -1", p.dances(0, -1, 0), Check.BAD);
        Check.due("what = 2", p.dances(0, 1, 2), Check.BAD);
        Check.due("what = -1", p.dances(0, 1, -1), Check.BAD);
    }
}
