/** Each sentence that names an edge of what is asked of a dance: part 2, promises 12 to 20. */
public final class EdgesOfBeatsTest {
    private static final int NONE = Check.NONE, BAD = Check.BAD;
    /** Four of each way; by SWEEPS each of the 16 pairs MEETS five times. */
    private static final String SIDE_BY_SIDE = "ar0;el1;br2;fl3;cr4;gl5;dr6;hl7";
    private static final String SWEEPS = "oooo" + "toooo".repeat(4);
    /** These two MEET in 2, 8, 14 and 20, by whatever is danced. */
    private static final String TWO = "ar1;gl2";

    public static void main(String[] args) {
        at();
        atRefuses();
        high();
        weave();
        weaveFromTheTop();
        weaveWhenNoneIsOn();
        shows();
        sum();
        run();
        runOfNone();
        bare();
        top();
        lacks();
        nobodyAtAll();
        Check.end("EdgesOfBeatsTest");
    }

    /** STEPS by which of TWO in the BEATS where they MEET these are danced. */
    private static String fourMeetings(String four) {
        StringBuilder steps = new StringBuilder(Check.ALL_O);
        for (int i = 0; i < four.length(); i++) steps.setCharAt(2 + 6 * i, four.charAt(i));
        return steps.toString();
    }

    private static void at() {
        Check.sentence("Behind a BEAT of one of DANCERS: the PLACE; the way (0 r, 1 l); how much of the RIBBON is left");
        MayPole p = Check.told("ar0;cl0", "oot");
        int[][][] due = {{{1, 0, 19}, {1, 1, 19}}, {{2, 0, 19}, {0, 1, 19}}, {{2, 1, 19}, {0, 0, 19}}};
        for (int i = 0; i < 18; i++) {
            Check.due("at(" + i / 6 + ", " + i / 3 % 2 + ", " + i % 3 + ")", p.at(i / 6, i / 3 % 2, i % 3),
                due[i / 6][i / 3 % 2][i % 3]);
        }
        for (int d = 0; d < 2; d++) {
            for (int what = 0; what <= 2; what++) Check.due("behind 23", p.at(23, d, what), due[2][d][what]);
        }
    }

    private static void atRefuses() {
        Check.sentence("The PLACE (what = 0), the way (1), how much is left (2). BAD");
        MayPole p = Check.told(Check.EIGHT, "o");
        for (int beat : Check.beside(0, 23)) Check.due("at BEAT " + beat, p.at(beat, 0, 0), BAD);
        for (int d : Check.beside(0, 7)) Check.due("at dancer " + d, p.at(0, d, 0), BAD);
        for (int what : Check.beside(0, 2)) Check.due("at what " + what, p.at(0, 0, what), BAD);
        Check.due("the last of all", p.at(23, 7, 2) >= 0 ? 1 : 0, 1);
        MayPole two = Check.told(TWO, "o");
        for (int d = 2; d <= 8; d++) Check.due("no such one: " + d, two.at(0, d, 0), BAD);
        Check.due("nobody", new MayPole().at(0, 0, 0), BAD);
    }

    private static void high() {
        Check.sentence("HIGH: how many are on behind a BEAT; how many pairs MET in it. BAD");
        MayPole p = Check.told(TWO, Check.ALL_O);
        for (int beat = 0; beat < 24; beat++) {
            Check.due("high(" + beat + ", 0)", p.high(beat, 0), (beat + 4) / 6);
            Check.due("high(" + beat + ", 1)", p.high(beat, 1), beat % 6 == 2 ? 1 : 0);
        }
        for (int beat : Check.beside(0, 23)) Check.due("high BEAT " + beat, p.high(beat, 0), BAD);
        for (int what : Check.beside(0, 1)) Check.due("high what " + what, p.high(0, what), BAD);
        MayPole most = Check.told(SIDE_BY_SIDE, SWEEPS);
        most.ribbons(30);
        Check.due("80 are on", most.high(23, 0), 80);
        Check.due("count(4)", most.count(4), 80);
        most.ribbons(2);
        Check.due("8 are on by the shortest", most.high(23, 0), 8);
    }

    private static void weave() {
        Check.sentence("of the i-th that is on, from the top (0 to 119); NONE. BAD");
        MayPole p = Check.told(SIDE_BY_SIDE, SWEEPS);
        p.ribbons(30);
        for (int what = 0; what <= 2; what++) {
            for (int i = 0; i < 120; i++) {
                int got = p.weave(i, what);
                Check.due("weave(" + i + ", " + what + ") is there", got == NONE ? 0 : 1, i < 80 ? 1 : 0);
            }
            for (int i : Check.beside(0, 119)) Check.due("weave(" + i + ")", p.weave(i, what), BAD);
        }
        Check.due("the BEAT of the last", p.weave(79, 2), 23);
    }

    private static void weaveFromTheTop() {
        Check.sentence("WEAVE behind BEAT 23: who is OVER, who UNDER, the BEAT");
        MayPole p = Check.told(TWO, fourMeetings("ouuo"));
        int[][] due = {{0, 1, 2}, {1, 0, 8}, {1, 0, 14}, {0, 1, 20}};
        for (int i = 0; i < 12; i++) Check.due("weave(" + i / 3 + ", " + i % 3 + ")", p.weave(i / 3, i % 3), due[i / 3][i % 3]);
        MayPole off = Check.told("ar1;bl2", "otuto");
        Check.due("what came off is not in it", off.weave(0, 2), 4);
        Check.due("just one is on", off.weave(1, 2), NONE);
    }

    private static void weaveWhenNoneIsOn() {
        Check.sentence("NONE. BAD: the first that fits");
        MayPole p = new MayPole();
        for (int what = 0; what <= 2; what++) {
            Check.due("weave(0)", p.weave(0, what), NONE);
            Check.due("weave(119)", p.weave(119, what), NONE);
            Check.due("weave(120)", p.weave(120, what), BAD);
            Check.due("weave(-1)", p.weave(-1, what), BAD);
        }
        for (int what : Check.beside(0, 2)) {
            Check.due("BAD, not NONE", p.weave(0, what), BAD);
            Check.due("BAD, not NONE", p.weave(119, what), BAD);
        }
    }

    private static void shows() {
        Check.sentence("SHOWS of a COLOUR (0 to 9): of how many that are on, who is OVER has that COLOUR. BAD");
        MayPole p = Check.told("ar0;gl9", fourMeetings("ouoo"));
        Check.due("shows(0)", p.shows(0), 3);
        for (int colour = 1; colour <= 8; colour++) Check.due("shows(" + colour + ")", p.shows(colour), 0);
        Check.due("shows(9)", p.shows(9), 1);
        for (int colour : Check.beside(0, 9)) Check.due("shows(" + colour + ")", p.shows(colour), BAD);
        Check.due("of two with one COLOUR", Check.told("ar3;gl3", fourMeetings("ouoo")).shows(3), 4);
        Check.due("what came off does not show", Check.told("ar1;bl2", "otu").shows(1), 0);
        Check.due("none is on", new MayPole().shows(0), 0);
    }

    private static void sum() {
        Check.sentence("SUM: how many pairs MET; how many were WOVEN; UNWOUND. BAD");
        MayPole p = Check.told("ar1;bl2", "otu" + "s".repeat(20) + "o");
        int[] due = {2, 1, 1};
        for (int what = 0; what <= 2; what++) Check.due("sum(" + what + ")", p.sum(what), due[what]);
        for (int what : Check.beside(0, 2)) Check.due("sum(" + what + ")", p.sum(what), BAD);
        MayPole last = Check.told("ar1;bl2", "o" + "s".repeat(21) + "tu");
        int[] dueLast = {2, 1, 1};
        for (int what = 0; what <= 2; what++) Check.due("of 0 and of 23", last.sum(what), dueLast[what]);
        last.event(2, 22, 0);
        int[] dueGone = {2, 1, 0};
        for (int what = 0; what <= 2; what++) Check.due("MET without RIBBONS", last.sum(what), dueGone[what]);
        MayPole most = Check.told(SIDE_BY_SIDE, SWEEPS);
        most.ribbons(30);
        Check.due("80 pairs", most.sum(0), 80);
    }

    private static void run() {
        Check.sentence("RUN: the most, one below another, of which who is OVER has one COLOUR; the first of these (from the top)");
        String[] four = {"oooo", "uuuu", "ouuo", "ouuu", "uuuo", "ouou", "oouu", "ouoo", "uoou"};
        int[] many = {4, 4, 2, 3, 3, 1, 2, 2, 2}, first = {0, 0, 1, 1, 0, 0, 0, 2, 1};
        for (int i = 0; i < four.length; i++) {
            MayPole p = Check.told(TWO, fourMeetings(four[i]));
            Check.due("run(0) of " + four[i], p.run(0), many[i]);
            Check.due("run(1) of " + four[i], p.run(1), first[i]);
            MayPole like = Check.told("ar1;gl1", fourMeetings(four[i]));
            Check.due("of two with one COLOUR", like.run(0), 4);
            Check.due("of two with one COLOUR", like.run(1), 0);
        }
        MayPole one = Check.told(TWO, "ooo");
        Check.due("just one", one.run(0), 1);
        Check.due("just one", one.run(1), 0);
    }

    private static void runOfNone() {
        Check.sentence("how many (what = 0), the first (1; NONE). BAD");
        for (MayPole p : new MayPole[] {new MayPole(), Check.told(TWO, ""), Check.told("ar1;bl2", "otu")}) {
            Check.due("run(0)", p.run(0), 0);
            Check.due("run(1)", p.run(1), NONE);
            for (int what : Check.beside(0, 1)) Check.due("run(" + what + ")", p.run(what), BAD);
        }
    }

    private static void bare() {
        Check.sentence("BARE: the last BEAT behind which none is on; NONE");
        for (int beat = 0; beat < 24; beat++) {
            MayPole p = Check.told("ar1;bl2", "s".repeat(beat) + "o");
            Check.due("woven in " + beat, p.bare(), beat == 0 ? NONE : beat - 1);
        }
        Check.due("never woven", Check.told("ar1;bl2", "").bare(), 23);
        Check.due("off in 23", Check.told("ar1;bl2", "o" + "s".repeat(21) + "tu").bare(), 23);
        Check.due("off, and on again in 23", Check.told("ar1;bl2", "otu" + "s".repeat(19) + "to").bare(), 22);
        Check.due("off for one BEAT", Check.told("ar1;bl2", "otuo" + "oooo" + "oo").bare(), 7);
    }

    private static void top() {
        Check.sentence("TOP: who is OVER most often of what is on, of like ones the least; NONE");
        String[] four = {"oooo", "uuuu", "ouuo", "uoou", "ouuu", "uooo"};
        int[] due = {0, 1, 0, 0, 1, 0};
        for (int i = 0; i < four.length; i++) {
            Check.due("top of " + four[i], Check.told(TWO, fourMeetings(four[i])).top(), due[i]);
        }
        Check.due("none is on", Check.told(TWO, "").top(), NONE);
        Check.due("none is on any more", Check.told("ar1;bl2", "otu").top(), NONE);
        MayPole last = Check.told("al0;bl1;cl2;dl3;el4;fl5;gl6;hr7", "oooooo");
        Check.due("the eighth", last.top(), 7);
        Check.due("by number, not by COLOUR", Check.told("ar9;bl9", "u").top(), 1);
    }

    private static void lacks() {
        Check.sentence("SHORT: DANCERS of whose RIBBONS none is left behind BEAT 23, as bits");
        MayPole all = Check.told(SIDE_BY_SIDE, SWEEPS);
        all.ribbons(2);
        Check.due("all eight", all.lacks(), 255);
        all.ribbons(30);
        Check.due("none", all.lacks(), 0);
        MayPole first = Check.told("ar0;bl0;cl0", "o");
        first.ribbons(2);
        Check.due("the first alone", first.lacks(), 1);
        first.ribbons(3);
        Check.due("one is left", first.lacks(), 0);
        MayPole eighth = Check.told("bl0;cl0;gl0;hl0;il0;jl0;kl0;ar0", "o");
        eighth.ribbons(2);
        Check.due("the eighth alone", eighth.lacks(), 128);
        eighth.event(2, 5, 7);
        Check.due("who LET GO too", eighth.lacks(), 128);
        MayPole again = Check.told("ar0;dl0;cl0", "ootuu");
        again.ribbons(2);
        Check.due("behind 23, not before", again.lacks(), 0);
    }

    private static void nobodyAtAll() {
        Check.sentence("No DANCERS");
        MayPole p = Check.told("", Check.ALL_O);
        for (int beat = 0; beat < 24; beat++) {
            Check.due("high", p.high(beat, 0), 0);
            Check.due("met", p.high(beat, 1), 0);
        }
        for (int what = 0; what <= 2; what++) Check.due("sum", p.sum(what), 0);
        Check.due("bare", p.bare(), 23);
        Check.due("top", p.top(), NONE);
        Check.due("lacks", p.lacks(), 0);
        MayPole one = Check.told("ar0", Check.ALL_O);
        Check.due("one alone MEETS nobody", one.sum(0), 0);
        Check.due("one alone goes round", one.at(23, 0, 0), 0);
    }
}
