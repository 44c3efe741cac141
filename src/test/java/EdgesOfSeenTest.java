import java.math.BigInteger;

/** Each sentence that names an edge of SEEN, CHANCE and DANCES: part 4, promises 25 to 32. */
public final class EdgesOfSeenTest {
    private static final int NONE = Check.NONE, BAD = Check.BAD, FULL = Check.FULL;
    private static final int ALL_LENGTHS = 0x7FFFFFFC;
    /** By this dance as many are on behind BEAT 23 as RIBBONS are long, for each length. */
    private static final Tale ONE_FOR_EACH = Tale.of("ar0;bl0;cl0;dl0;el0;fl0;gl0;hl0", "oooo" + "toooo".repeat(4));
    private static final int[] SEEDS = {0, 1, 7, -1, 2, 65535, 65536, -65536, Check.MOST, Check.LEAST, 123456789, -987654321};

    public static void main(String[] args) {
        seenEightAtMost();
        seenNumbers();
        eachOfSeenCounts();
        forget();
        neverBits();
        neverAlone();
        ways();
        lengths();
        lengthsInPlaceOfWhatIsTold();
        askOfLikeOnes();
        askWithFewLengths();
        for (Tale tale : Tales.some()) {
            for (Tale seen : new Tale[] {tale, tale.saw(23, tale.high()), tale.saw(5, 1).saw(9, 2), tale.saw(3, 0)}) {
                seenTriedOut(seen);
                askTriedOut(seen);
            }
            chanceTriedOut(tale);
            dancesTriedOut(tale);
        }
        chanceOfAll();
        chanceRefuses();
        lotsWrap();
        dancesFewOrAll();
        dancesRefuse();
        Check.end("EdgesOfSeenTest");
    }

    private static void seenEightAtMost() {
        Check.sentence("SEEN, 8 at most. SEEN more: how many. BAD; FULL");
        MayPole p = new MayPole();
        for (int i = 1; i <= 8; i++) Check.due("seen", p.seen(0, 0), i);
        Check.due("a ninth", p.seen(0, 0), FULL);
        for (int beat : Check.beside(0, 23)) Check.due("BAD ahead of FULL", p.seen(beat, 0), BAD);
        for (int many : Check.beside(0, 120)) Check.due("BAD ahead of FULL", p.seen(0, many), BAD);
        Check.due("count(7)", p.count(7), 8);
        Check.due("forget", p.forget(), 8);
        Check.due("room again", p.seen(0, 0), 1);
    }

    private static void seenNumbers() {
        Check.sentence("behind a BEAT so many were on (0 to 120)");
        MayPole p = new MayPole();
        for (int beat : Check.beside(0, 23)) Check.due("seen BEAT " + beat, p.seen(beat, 0), BAD);
        for (int many : Check.beside(0, 120)) Check.due("seen " + many, p.seen(0, many), BAD);
        Check.due("none came", p.count(7), 0);
        Check.due("0, 0", p.seen(0, 0), 1);
        Check.due("23, 0", p.seen(23, 0), 2);
        Check.due("so it is", p.lengths(), ALL_LENGTHS);
        Check.due("23, 120", p.seen(23, 120), 3);
        Check.due("so it is not", p.lengths(), 0);
        Check.due("0, 120", p.seen(0, 120), 4);
    }

    private static void eachOfSeenCounts() {
        Check.sentence("makes all that was SEEN come out so");
        for (int at = 0; at < 8; at++) {
            MayPole p = Check.told("ar1;bl2", "o");
            p.event(2, 5, 0);
            for (int i = 0; i < 8; i++) p.seen(3 * i, i == at ? 2 : 1);
            Check.due("lengths, but for the " + at + "-th", p.lengths(), 0);
            Check.due("ways", p.ways(0), 0);
            Check.due("never", p.never(), 0);
        }
        for (int beat = 0; beat < 24; beat++) {
            MayPole p = Check.told("ar1;gl2", Check.ALL_O);
            p.seen(beat, (beat + 4) / 6);
            Check.due("behind " + beat, p.ways(0), beat < 2 ? 3 : 1);
        }
    }

    private static void forget() {
        Check.sentence("All SEEN are forgotten: how many");
        MayPole p = new MayPole();
        Check.due("of none", p.forget(), 0);
        for (int i = 1; i <= 8; i++) {
            for (int j = 0; j < i; j++) p.seen(0, 120);
            Check.due("it is not so", p.lengths(), 0);
            Check.due("forget", p.forget(), i);
            Check.due("nothing is SEEN", p.lengths(), ALL_LENGTHS);
            Check.due("count(7)", p.count(7), 0);
        }
    }

    private static void neverBits() {
        Check.sentence("NEVER: EVENTS each of which, had it alone not been, makes all that was SEEN come out so, as bits");
        Check.due("no EVENTS", new MayPole().never(), 0);
        for (int n = 1; n <= 8; n++) {
            MayPole p = Check.told("ar1;bl2", "o");
            for (int e = 0; e < n; e++) p.event(0, 23, 7);
            Check.due("nothing SEEN, of " + n, p.never(), (1 << n) - 1);
            p.seen(0, 0);
            Check.due("none makes it so", p.never(), 0);
        }
        for (int at = 0; at < 8; at++) {
            MayPole p = Check.told("ar1;bl2", "o");
            for (int e = 0; e < 8; e++) p.event(e == at ? 2 : 0, e == at ? 0 : 9, 0);
            p.seen(0, 1);
            Check.due("just that of " + at, p.never(), 1 << at);
            p.forget();
            p.seen(0, 0);
            Check.due("all others", p.never(), 255 & ~(1 << at));
        }
    }

    private static void neverAlone() {
        Check.sentence("had it alone not been");
        MayPole p = Tale.of("ar1;bl2", "o").event(2, 0, 0).event(2, 0, 0).saw(0, 1).make();
        Check.due("either is too few", p.never(), 0);
        MayPole held = Tale.of("ar1;bl2", "o").saw(0, 1).make();
        Check.due("no EVENTS, though it comes out so", held.never(), 0);
    }

    private static void ways() {
        Check.sentence("WAYS of one: 0 r, 1 l, at first, in place of one's own, likewise, as bits. BAD");
        MayPole p = Tale.of("ar1;bl2", "o").saw(0, 1).make();
        Check.due("r alone", p.ways(0), 1);
        Check.due("l alone", p.ways(1), 2);
        p.seen(0, 0);
        Check.due("neither", p.ways(0), 0);
        p.forget();
        Check.due("both", p.ways(0), 3);
        Check.due("both", p.ways(1), 3);
        Check.due("other than told", Tale.of("al1;bl2", "o").saw(0, 1).make().ways(0), 1);
        for (int d : Check.beside(0, 1)) Check.due("ways(" + d + ")", p.ways(d), BAD);
        Check.due("nobody", new MayPole().ways(0), BAD);
        Check.due("with a FAULT", Check.told("ar1;", "").ways(0), BAD);
        Check.due("the eighth", Check.told(Check.EIGHT, "").ways(7), 3);
        Check.due("a ninth", Check.told(Check.EIGHT, "").ways(8), BAD);
    }

    private static void lengths() {
        Check.sentence("LENGTHS: 2 to 30, how long RIBBONS are, likewise, as bits (bit 2 on)");
        MayPole p = ONE_FOR_EACH.make();
        Check.due("nothing SEEN", p.lengths(), ALL_LENGTHS);
        for (int many = 0; many <= 120; many++) {
            p.seen(23, many);
            Check.due(many + " on", p.lengths(), many >= 2 && many <= 30 ? 1 << many : 0);
            p.forget();
        }
    }

    private static void lengthsInPlaceOfWhatIsTold() {
        Check.sentence("LENGTHS: in place of what is told");
        for (int told = 2; told <= 30; told++) {
            MayPole p = ONE_FOR_EACH.ribboned(told).saw(23, 11).make();
            Check.due("told " + told, p.lengths(), 1 << 11);
            Check.due("what is told stays", p.count(5), told);
        }
    }

    private static void askOfLikeOnes() {
        Check.sentence("of like ones the least");
        Check.due("all alike behind each BEAT", new MayPole().ask(), 0);
        Check.due("all alike behind each BEAT", Check.told("ar1;bl2", "o").ask(), 0);
        // Four times seven are on behind 18, and 30 behind 20: each length tells itself from there on.
        Check.due("the first of the BEATS that tell each length", ONE_FOR_EACH.make().ask(), 20);
        // 2 parts from the others where they MEET for the third time, 3 where they do for the fourth.
        Check.due("behind 20", Check.told("ar1;gl2", Check.ALL_O).ask(), 20);
        Check.due("behind 14", Check.told("ar1;gl2", Check.ALL_O.substring(0, 20)).ask(), 14);
        Check.due("behind the last", Check.told("ar1;ll2", Check.ALL_O).ask(), 23);
    }

    private static void askWithFewLengths() {
        Check.sentence("ASK: the BEAT behind which the greatest number of those of LENGTHS");
        Check.due("of no LENGTHS", ONE_FOR_EACH.saw(0, 120).make().ask(), 0);
        Check.due("of one", ONE_FOR_EACH.saw(23, 30).make().ask(), 0);
        Check.due("of one", ONE_FOR_EACH.saw(23, 2).make().ask(), 0);
        // 28 are on behind 19; with 1 off just one more is woven in 20, and the next in 21.
        Tale two = ONE_FOR_EACH.event(2, 20, 1).saw(20, 29);
        Check.due("29 and 30 alone", two.make().lengths(), 1 << 29 | 1 << 30);
        Check.due("they part behind 21", two.make().ask(), 21);
    }

    private static void seenTriedOut(Tale tale) {
        Check.sentence("had it alone not been; in place of one's own; in place of what is told, likewise");
        MayPole p = tale.make();
        int never = 0, lengths = 0;
        for (int e = 0; e < tale.events().size(); e++) {
            if (tale.only(tale.allEvents() & ~(1 << e)).comesOut()) never |= 1 << e;
        }
        Check.due(tale + " never()", p.never(), never);
        for (int v = 2; v <= 30; v++) lengths |= tale.ribboned(v).comesOut() ? 1 << v : 0;
        Check.due(tale + " lengths()", p.lengths(), lengths);
        for (int d = 0; d < tale.many(); d++) {
            int ways = (tale.altered(d, 1, 'r').comesOut() ? 1 : 0) | (tale.altered(d, 1, 'l').comesOut() ? 2 : 0);
            Check.due(tale + " ways(" + d + ")", p.ways(d), ways);
        }
    }

    private static void askTriedOut(Tale tale) {
        Check.sentence("ASK: the greatest number of those of LENGTHS by which as many are on is least, of like ones the least");
        int[][] alike = new int[24][121];
        for (int v = 2; v <= 30; v++) {
            if (!tale.ribboned(v).comesOut()) continue;
            MayPole p = tale.ribboned(v).make();
            for (int beat = 0; beat < 24; beat++) alike[beat][p.high(beat, 0)]++;
        }
        int which = NONE, least = 1000;
        for (int beat = 0; beat < 24; beat++) {
            int greatest = 0;
            for (int many : alike[beat]) greatest = Math.max(greatest, many);
            if (greatest < least) {
                least = greatest;
                which = beat;
            }
        }
        Check.due(tale + " ask()", tale.make().ask(), which);
    }

    private static void chanceTriedOut(Tale tale) {
        Check.sentence("CHANCE: each of EVENTS is by c sixteenths (0 to 16), by itself; FRACTIONS are told in lowest terms");
        int sets = tale.allEvents() + 1, n = tale.events().size();
        boolean[][] bare = new boolean[sets][24];
        for (int set = 0; set < sets; set++) {
            MayPole p = tale.only(set).make();
            for (int beat = 0; beat < 24; beat++) bare[set][beat] = p.high(beat, 0) == 0;
        }
        for (int beat : new int[] {0, 1, 7, 23}) {
            for (int c = 0; c <= 16; c++) {
                BigInteger above = BigInteger.ZERO, below = BigInteger.valueOf(16).pow(n);
                for (int set = 0; set < sets; set++) {
                    int are = Integer.bitCount(set);
                    BigInteger weight = BigInteger.valueOf(c).pow(are).multiply(BigInteger.valueOf(16 - c).pow(n - are));
                    if (bare[set][beat]) above = above.add(weight);
                }
                BigInteger common = above.gcd(below);
                MayPole p = tale.make();
                Check.due(tale + " above", p.chance(c, beat, 0), above.divide(common).longValueExact());
                Check.due(tale + " below", p.chance(c, beat, 1), below.divide(common).longValueExact());
            }
        }
    }

    private static void chanceOfAll() {
        Check.sentence("FRACTIONS are told in lowest terms, above and below (0 by 1)");
        Tale never = Tale.of("ar1;bl2", "o"), always = Tale.of("ar1;bl2", "");
        for (int n = 0; n <= 8; n++) {
            for (int c = 0; c <= 16; c++) {
                MayPole p = never.make(), q = always.make();
                Check.due("0 above", p.chance(c, 23, 0), 0);
                Check.due("1 below", p.chance(c, 23, 1), 1);
                Check.due("1 above", q.chance(c, 23, 0), 1);
                Check.due("1 below", q.chance(c, 23, 1), 1);
            }
            never = n < 8 ? never.event(1, 0, 0) : never;
            always = n < 8 ? always.event(2, 0, 0) : always;
        }
        Tale eight = Tale.of("ar1;bl2", "o");
        for (int e = 0; e < 8; e++) eight = eight.event(2, 0, e % 2);
        Check.due("more than an int below", eight.make().chance(1, 0, 1), 1L << 32);
        Check.due("more than an int above", eight.make().chance(15, 0, 0), (1L << 32) - 1);
        Check.due("none of them is", eight.make().chance(0, 0, 0), 0);
        Check.due("none of them is", eight.make().chance(0, 0, 1), 1);
        Check.due("all of them are", eight.make().chance(16, 0, 0), 1);
        Check.due("all of them are", eight.make().chance(16, 0, 1), 1);
    }

    private static void chanceRefuses() {
        Check.sentence("BAD. (As the least long.) a refusal -x is the least long and x more");
        MayPole p = Tale.of("ar1;bl2", "o").event(2, 0, 0).make();
        for (int c : Check.beside(0, 16)) Check.due("chance c " + c, p.chance(c, 0, 0), Check.BAD_LONG);
        for (int beat : Check.beside(0, 23)) Check.due("chance BEAT " + beat, p.chance(0, beat, 0), Check.BAD_LONG);
        for (int what : Check.beside(0, 1)) Check.due("chance what " + what, p.chance(0, 0, what), Check.BAD_LONG);
        Check.due("the least long and 2 more", p.chance(17, 0, 0), -9223372036854775806L);
    }

    /** LOTS of 4, by numbers that never wrap by themselves. */
    private static String lots(int seed, int n) {
        BigInteger all = BigInteger.ONE.shiftLeft(32), lot = BigInteger.valueOf(seed).mod(all);
        StringBuilder steps = new StringBuilder();
        for (int i = 0; i < n; i++) {
            lot = lot.multiply(BigInteger.valueOf(1103515245)).add(BigInteger.valueOf(12345)).mod(all);
            steps.append("oust".charAt(lot.shiftRight(16).intValueExact() % 4));
        }
        return steps.toString();
    }

    private static void lotsWrap() {
        Check.sentence("SEED becomes 1103515245 SEED and 12345, as ints that wrap; its upper 16 bits as a number from 0 on, modulo m");
        // The upper bits by SEED 1 are 16838, 38526, 10113, 50283, 63819, 38395, 55778, 40187, 48980, 4086.
        Check.due("by SEED 1", lots(1, 10).equals("ssutttstos") ? 1 : 0, 1);
        Tale tale = Tale.of("ar1;bl2", "");
        for (int seed : SEEDS) {
            for (int n = 0; n <= 24; n++) {
                MayPole told = tale.danced(lots(seed, n)).make();
                Check.due("dances(" + seed + ", " + n + ", 0)", tale.make().dances(seed, n, 0), told.high(23, 0));
                Check.due("dances(" + seed + ", " + n + ", 1)", tale.make().dances(seed, n, 1), told.sum(2));
            }
        }
    }

    private static void dancesTriedOut(Tale tale) {
        Check.sentence("DANCES by a SEED: n LOTS of 4 are STEPS, in place of what is told (s in later BEATS)");
        for (int seed : SEEDS) {
            for (int n : new int[] {0, 1, 9, 23, 24}) {
                MayPole told = tale.danced(lots(seed, n)).make(), p = tale.make();
                Check.due(tale + " dances(" + seed + ", " + n + ", 0)", p.dances(seed, n, 0), told.high(23, 0));
                Check.due(tale + " dances(" + seed + ", " + n + ", 1)", p.dances(seed, n, 1), told.sum(2));
            }
        }
    }

    private static void dancesFewOrAll() {
        Check.sentence("n LOTS of 4 (0 to 24)");
        MayPole p = Check.told("ar1;gl2", Check.ALL_O);
        Check.due("four by what is told", p.high(23, 0), 4);
        Check.due("none by no LOTS", p.dances(1, 0, 0), 0);
        Check.due("STEPS stay", p.steps(0), 0);
        Check.due("HIGH stays", p.high(23, 0), 4);
        for (int seed = 0; seed < 200; seed++) {
            Tale tale = Tale.of("ar1;bl2", "");
            MayPole without = tale.danced(lots(seed, 23)).make(), whole = tale.danced(lots(seed, 24)).make();
            Check.due("23 of SEED " + seed, tale.make().dances(seed, 23, 0), without.high(23, 0));
            Check.due("24 of SEED " + seed, tale.make().dances(seed, 24, 0), whole.high(23, 0));
        }
    }

    private static void dancesRefuse() {
        Check.sentence("HIGH (what = 0), UNWOUND (1). BAD");
        MayPole p = Check.told("ar1;bl2", "o");
        for (int n : Check.beside(0, 24)) Check.due("dances n " + n, p.dances(0, n, 0), BAD);
        for (int what : Check.beside(0, 1)) Check.due("dances what " + what, p.dances(0, 1, what), BAD);
        Check.due("any SEED: the least", p.dances(Check.LEAST, 0, 0), 0);
        Check.due("any SEED: the most", p.dances(Check.MOST, 0, 0), 0);
    }
}
