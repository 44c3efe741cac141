/** Promises 12 to 20, and what a BEAT does. */
public final class BeatsTest {
    public static void main(String[] args) {
        goingRound();
        meetingByChange();
        meetingAtOnePlace();
        overAndUnder();
        goingWrong();
        unwinding();
        unwindingManyFromBelow();
        stumbling();
        lettingGo();
        lacking();
        orderOfNumbers();
        shows();
        runs();
        bare();
        top();
        refusals();
        Check.end("BeatsTest");
    }

    private static void goingRound() {
        MayPole p = Check.told("lr0;al0", "osot");
        Check.due("11 and up is 0", p.at(0, 0, 0), 0);
        Check.due("0 and down is 11", p.at(0, 1, 0), 11);
        Check.due("s", p.at(1, 0, 0), 0);
        Check.due("o", p.at(2, 0, 0), 1);
        Check.due("o", p.at(2, 1, 0), 10);
        Check.due("way ahead of t", p.at(2, 0, 1), 0);
        Check.due("way behind t", p.at(3, 0, 1), 1);
        Check.due("way behind t", p.at(3, 1, 1), 0);
        Check.due("t goes nowhere", p.at(3, 0, 0), 1);
        Check.due("later", p.at(23, 0, 0), 1);
    }

    private static void meetingByChange() {
        MayPole p = Check.told("ar1;dl2", "ooo");
        long[] on = {0, 1, 1}, met = {0, 1, 0};
        for (int beat = 0; beat < 3; beat++) {
            Check.due("high " + beat, p.high(beat, 0), on[beat]);
            Check.due("met " + beat, p.high(beat, 1), met[beat]);
        }
        Check.due("who is over", p.weave(0, 0), 0);
        Check.due("who is under", p.weave(0, 1), 1);
        Check.due("the beat", p.weave(0, 2), 1);
        Check.due("no second", p.weave(1, 0), Check.NONE);
        Check.due("left ahead", p.at(0, 1, 2), 20);
        Check.due("left", p.at(1, 1, 2), 19);
        Check.due("left at the end", p.at(23, 0, 2), 19);
        Check.due("high at the end", p.high(23, 0), 1);
        Check.due("count(4)", p.count(4), 1);
    }

    private static void meetingAtOnePlace() {
        MayPole p = Check.told("ar1;gl2", Check.ALL_O);
        for (int beat = 0; beat < 24; beat++) {
            Check.due("met in " + beat, p.high(beat, 1), beat % 6 == 2 ? 1 : 0);
        }
        Check.due("sum(0)", p.sum(0), 4);
        Check.due("sum(1)", p.sum(1), 4);
        MayPole same = Check.told("ar1;gr2", Check.ALL_O);
        Check.due("of like ways none meet", same.sum(0), 0);
        MayPole behind = Check.told("ar1;br2", "o");
        behind.event(0, 0, 1);
        Check.due("at one place", behind.at(0, 0, 0), behind.at(0, 1, 0));
        Check.due("of like ways none meet at one place", behind.sum(0), 0);
    }

    private static void overAndUnder() {
        Check.due("o: the rightward one", Check.told("ar1;bl2", "o").weave(0, 0), 0);
        Check.due("o: the rightward one", Check.told("bl1;ar2", "o").weave(0, 0), 1);
        Check.due("u: the leftward one", Check.told("ar1;bl2", "u").weave(0, 0), 1);
        Check.due("u: the leftward one", Check.told("bl1;ar2", "u").weave(0, 0), 0);
        Check.due("u: who is under", Check.told("bl1;ar2", "u").weave(0, 1), 1);
    }

    private static void goingWrong() {
        for (int who = 0; who < 2; who++) {
            MayPole p = Check.told("ar1;bl2", "o");
            p.event(1, 0, who);
            Check.due("one goes wrong", p.weave(0, 0), 1);
            p.event(1, 0, who);
            Check.due("told twice, wrong once", p.weave(0, 0), 1);
            p.event(1, 0, 1 - who);
            Check.due("both go wrong", p.weave(0, 0), 0);
        }
        MayPole p = Check.told("ar1;bl2", "so");
        p.event(1, 0, 0);
        p.event(1, 1, 5);
        Check.due("wrong in another beat, or another one", p.weave(0, 0), 0);
    }

    private static void unwinding() {
        MayPole p = Check.told("ar1;bl2", "otu");
        Check.due("danced back", p.high(2, 0), 0);
        Check.due("met", p.sum(0), 2);
        Check.due("woven", p.sum(1), 1);
        Check.due("unwound", p.sum(2), 1);
        Check.due("left again", p.at(2, 0, 2), 20);
        Check.due("left again", p.at(2, 1, 2), 20);
        MayPole q = Check.told("ar1;bl2", "oto");
        Check.due("another one over", q.high(2, 0), 2);
        Check.due("over now", q.weave(1, 0), 1);
        q.event(1, 2, 1);
        Check.due("wrong, but back", q.high(2, 0), 0);
        MayPole r = Check.told("ar1;gl2", Check.ALL_O);
        Check.due("the same ways do not unwind", r.sum(2), 0);
    }

    private static void unwindingManyFromBelow() {
        // They change places in 0 and 6, and in 8 and 14 again, danced back.
        MayPole p = Check.told("ar1;bl2", "oooooou" + "t" + "ouuuuuu");
        Check.due("most", p.high(7, 0), 2);
        Check.due("met", p.sum(0), 4);
        Check.due("woven", p.sum(1), 2);
        Check.due("the lowest comes off first", p.high(8, 0), 1);
        Check.due("then what is above it", p.high(14, 0), 0);
        Check.due("unwound", p.sum(2), 2);
        Check.due("bare", p.bare(), 23);
        for (int d = 0; d < 2; d++) Check.due("home again", p.at(14, d, 0), p.dancer(d, 0));
        // Two pairs at once are looked at by numbers both times, so 0 with 1 is not the last that is on.
        MayPole q = Check.told("ar1;bl2;gr3;hl4", "otu");
        Check.due("woven", q.sum(1), 4);
        Check.due("not unwound", q.sum(2), 0);
    }

    private static void stumbling() {
        MayPole p = Check.told("ar1;bl2", "oot");
        p.event(0, 0, 0);
        Check.due("who stumbles stays", p.at(0, 0, 0), 0);
        Check.due("the other one goes on", p.at(0, 1, 0), 0);
        Check.due("they meet at one place", p.high(0, 1), 1);
        Check.due("goes on then", p.at(1, 0, 0), 1);
        Check.due("they were at one place", p.high(1, 1), 0);
        p.event(0, 2, 0);
        Check.due("a stumbler turns", p.at(2, 0, 1), 1);
        MayPole both = Check.told("ar1;bl2", "oo");
        both.event(0, 0, 0);
        both.event(0, 0, 1);
        Check.due("both stay", both.high(0, 1), 0);
        Check.due("later", both.high(1, 1), 1);
        both.event(0, 1, 2);
        Check.due("no such one", both.high(1, 1), 1);
    }

    private static void lettingGo() {
        MayPole p = Check.told("ar1;gl2", Check.ALL_O);
        p.event(2, 8, 1);
        Check.due("on behind 7", p.high(7, 0), 1);
        Check.due("they meet without a ribbon", p.high(8, 1), 1);
        Check.due("and weave nothing", p.high(8, 0), 1);
        Check.due("for good", p.high(23, 0), 1);
        Check.due("met", p.sum(0), 4);
        Check.due("left of one who let go", p.at(23, 1, 2), 19);
        Check.due("let go", p.count(6), 1);
        p.event(2, 9, 1);
        p.event(2, 9, 2);
        Check.due("once is enough, and no such one", p.count(6), 1);
        p.event(2, 23, 0);
        Check.due("in the last beat", p.count(6), 2);
        MayPole still = Check.told("ar1;bl2", "so");
        still.event(2, 0, 0);
        Check.due("also while they stand", still.high(1, 0), 0);
    }

    private static void lacking() {
        MayPole p = Check.told("ar1;gl2", Check.ALL_O);
        p.ribbons(2);
        Check.due("none is left", p.at(8, 0, 2), 0);
        Check.due("at a place", p.at(8, 0, 0), 9);
        Check.due("stays there", p.at(23, 0, 0), 9);
        Check.due("short", p.lacks(), 3);
        p.event(2, 9, 0);
        Check.due("who let go goes on in that beat", p.at(9, 0, 0), 10);
        Check.due("comes round", p.high(20, 1), 1);
        Check.due("weaves nothing", p.high(23, 0), 2);
        Check.due("short too, though let go", p.lacks(), 3);
        p.ribbons(3);
        Check.due("one is left", p.lacks(), 0);
        MayPole both = Check.told("ar0;cl0;bl0", "oo");
        both.ribbons(2);
        Check.due("met", both.sum(0), 2);
        Check.due("short is the first alone", both.lacks(), 1);
    }

    private static void orderOfNumbers() {
        // Nobody has changed places with nobody: 0 meets 1 and 2 at one place, by their numbers.
        MayPole p = Check.told("bl0;ar0;cl0", "u");
        p.event(0, 0, 1);
        p.event(0, 0, 2);
        Check.due("0 with 1", p.weave(0, 0), 0);
        MayPole q = Check.told("cl0;ar0;bl0", "o");
        Check.due("met in 0", q.high(0, 1), 2);
        Check.due("first 0 with 1", q.weave(0, 1), 0);
        Check.due("then 1 with 2", q.weave(1, 1), 2);
        Check.due("top", q.top(), 1);
    }

    private static void shows() {
        MayPole p = Check.told("cl7;ar9;bl7", "o");
        Check.due("shows(9)", p.shows(9), 2);
        Check.due("shows(7)", p.shows(7), 0);
        p.event(1, 0, 2);
        Check.due("shows(9)", p.shows(9), 1);
        Check.due("shows(7)", p.shows(7), 1);
        Check.due("shows(0)", p.shows(0), 0);
    }

    private static void runs() {
        MayPole p = Check.told("ar1;gl2", "oooooooouooooouooooooooo");
        // Woven in 2, 8, 14, 20; 8 and 14 by u.
        Check.due("run(0)", p.run(0), 2);
        Check.due("run(1)", p.run(1), 1);
        p.event(1, 8, 0);
        Check.due("run(0)", p.run(0), 2);
        Check.due("run(1): the first of like ones", p.run(1), 0);
        p.event(1, 14, 0);
        Check.due("run(0)", p.run(0), 4);
        Check.due("run(1)", p.run(1), 0);
        Check.due("one colour for both", Check.told("ar1;gl1", "oooooooouooooouooooooooo").run(0), 4);
        Check.due("no run", new MayPole().run(0), 0);
        Check.due("no run's first", new MayPole().run(1), Check.NONE);
    }

    private static void bare() {
        Check.due("none ever", Check.told("ar1;bl2", "o").bare(), Check.NONE);
        Check.due("behind 0 alone", Check.told("ar1;bl2", "so").bare(), 0);
        Check.due("ahead of the first", Check.told("ar1;bl2", "sso").bare(), 1);
        Check.due("behind the last", Check.told("ar1;bl2", "otu").bare(), 23);
        Check.due("between", Check.told("ar1;bl2", "otuto").bare(), 3);
    }

    private static void top() {
        Check.due("none", new MayPole().top(), Check.NONE);
        Check.due("one", Check.told("ar1;bl2", "u").top(), 1);
        Check.due("of like ones the least", Check.told("ar1;bl2", "oto").top(), 0);
        Check.due("most often", Check.told("ar1;gl2", "oooooooouooooouooooouooo").top(), 1);
    }

    private static void refusals() {
        MayPole p = Check.told("ar1;bl2", "o");
        int[][] at = {{-1, 0, 0}, {24, 0, 0}, {0, -1, 0}, {0, 2, 0}, {0, 0, -1}, {0, 0, 3}};
        for (int[] a : at) Check.due("at", p.at(a[0], a[1], a[2]), Check.BAD);
        int[][] high = {{-1, 0}, {24, 0}, {0, -1}, {0, 2}};
        for (int[] h : high) Check.due("high", p.high(h[0], h[1]), Check.BAD);
        int[][] weave = {{-1, 0}, {120, 0}, {0, -1}, {0, 3}, {119, 3}};
        for (int[] w : weave) Check.due("weave", p.weave(w[0], w[1]), Check.BAD);
        Check.due("weave(119, 2)", p.weave(119, 2), Check.NONE);
        int[] wrong = {-1, 10};
        for (int c : wrong) Check.due("shows", p.shows(c), Check.BAD);
        Check.due("sum(-1)", p.sum(-1), Check.BAD);
        Check.due("sum(3)", p.sum(3), Check.BAD);
        Check.due("run(-1)", p.run(-1), Check.BAD);
        Check.due("run(2)", p.run(2), Check.BAD);
        Check.due("no finding", p.count(8), 0);
    }
}
