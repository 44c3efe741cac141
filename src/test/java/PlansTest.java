/** Promises 21 to 24: what had better be. */
public final class PlansTest {
    public static void main(String[] args) {
        step();
        begin();
        dress();
        spare();
        refusals();
        plansChangeNothing();
        Check.end("PlansTest");
    }

    private static void step() {
        MayPole p = Check.told("ar1;bl2", "otu");
        Check.due("o in place of u", p.step(2, 0), 0);
        Check.due("two are on then", p.step(2, 1), 2);
        MayPole q = Check.told("ar1;bl2", "uto");
        Check.due("u in place of o", q.step(2, 0), 1);
        MayPole r = Check.told("ar1;cl2", "soo");
        Check.due("of like ones the least", r.step(0, 0), 0);
        Check.due("one is on by any", r.step(0, 1), 1);
        Check.due("behind the text", Check.told("ar1;bl2", "").step(23, 1), 1);
        Check.due("with a fault", Check.told("ar1;bl2", "x").step(0, 1), 1);
        // To turn lets them go towards each other; else they go apart, and nobody meets.
        MayPole away = Check.told("al1;er2", "soo");
        Check.due("t", away.step(0, 0), 3);
        Check.due("one is on", away.step(0, 1), 1);
        // They stand in BEAT 0, or else they have met and gone by before they are to weave.
        MayPole wait = Check.told("ar1;bl2", "so");
        wait.event(2, 2, 0);
        Check.due("o", wait.step(0, 0), 0);
        wait.event(0, 0, 0);
        wait.event(0, 0, 1);
        wait.event(0, 1, 0);
        Check.due("nobody goes in 0", wait.step(0, 1), 1);
    }

    private static void begin() {
        MayPole p = Check.told("ar1;fl2", "o");
        // 0 must be next to 5, at 4, or two away, at 3.
        Check.due("the least that meets", p.begin(0, 0), 3);
        Check.due("one is on", p.begin(0, 1), 1);
        Check.due("the other one", p.begin(1, 0), 1);
        MayPole none = Check.told("ar1;fl2", "");
        Check.due("of like ones the least", none.begin(0, 0), 0);
        Check.due("where nobody else is", none.begin(1, 0), 1);
        Check.due("none is on", none.begin(1, 1), 0);
        MayPole taken = Check.told("ar1;fl2;dr3", "o");
        Check.due("3 is taken", taken.begin(0, 0), 4);
        Check.due("with the other one's", taken.begin(0, 1), 2);
    }

    private static void dress() {
        MayPole p = Check.told("ar1;gl2", "oooooooouooooouooooooooo");
        // 0, 1, 1, 0 are over.
        Check.due("another colour than 2", p.dress(0, 0), 0);
        Check.due("run of two", p.dress(0, 1), 2);
        Check.due("the other one", p.dress(1, 0), 0);
        MayPole q = Check.told("ar0;gl0", "oooooooouooooooooooouooo");
        // 0, 1, 0, 1 are over.
        Check.due("not 0", q.dress(1, 0), 1);
        Check.due("each alone", q.dress(1, 1), 1);
        Check.due("nothing is on", Check.told("ar5", "").dress(0, 0), 0);
        Check.due("nothing is on", Check.told("ar5", "").dress(0, 1), 0);
    }

    private static void spare() {
        MayPole p = Check.told("ar1;bl2", "otu");
        Check.due("none need be spared", p.spare(-1), 0);
        Check.due("no first", p.spare(0), Check.NONE);
        p.event(0, 5, 5);
        p.event(1, 2, 0);
        Check.due("one", p.spare(-1), 1);
        Check.due("which", p.spare(0), 1);
        Check.due("no second", p.spare(1), Check.NONE);
        p.event(1, 0, 1);
        // Both wrong: 1 over at first, 1 over again, of the other way then: it comes off.
        Check.due("wrong twice is well", p.spare(-1), 0);
        p.event(2, 1, 0);
        Check.due("who lets go", p.spare(0), 3);
        p.event(2, 1, 0);
        Check.due("two", p.spare(-1), 2);
        Check.due("the first", p.spare(0), 3);
        Check.due("the second", p.spare(1), 4);
        p.event(2, 1, 1);
        Check.due("three are too many", p.spare(-1), Check.NONE);
        Check.due("no first", p.spare(0), Check.NONE);
        Check.due("no second", p.spare(1), Check.NONE);
        MayPole apart = Check.told("ar1;bl2", "otu");
        apart.event(2, 1, 1);
        apart.event(0, 2, 7);
        apart.event(2, 2, 0);
        Check.due("two, not side by side", apart.spare(-1), 2);
        Check.due("the first", apart.spare(0), 0);
        Check.due("the second", apart.spare(1), 2);
        MayPole q = Check.told("ar1;bl2", "o");
        Check.due("no events to spare", q.spare(-1), Check.NONE);
    }

    private static void refusals() {
        MayPole p = Check.told("ar1;bl2", "o");
        int[][] wrong = {{-1, 0}, {24, 0}, {0, -1}, {0, 2}};
        for (int[] w : wrong) {
            Check.due("step", p.step(w[0], w[1]), Check.BAD);
            Check.due("begin", p.begin(w[0], w[1]), Check.BAD);
            Check.due("dress", p.dress(w[0], w[1]), Check.BAD);
        }
        Check.due("begin(2, 0)", p.begin(2, 0), Check.BAD);
        Check.due("dress(2, 0)", p.dress(2, 0), Check.BAD);
        Check.due("spare(2)", p.spare(2), Check.BAD);
        Check.due("spare(-2)", p.spare(-2), Check.BAD);
    }

    private static void plansChangeNothing() {
        MayPole p = Check.told("ar1;dl2;gr1;jl3", "oouutouus");
        p.event(0, 1, 1);
        long was = p.digest();
        p.step(0, 0);
        p.begin(0, 0);
        p.dress(0, 0);
        p.spare(0);
        p.never();
        p.ways(0);
        p.lengths();
        p.ask();
        p.chance(3, 9, 0);
        p.dances(1, 24, 0);
        Check.due("digest", p.digest(), was);
        Check.due("place", p.dancer(0, 0), 0);
        Check.due("colour", p.dancer(0, 2), 1);
        Check.due("step", p.steps(0), 0);
        Check.due("length", p.count(5), 20);
        Check.due("events", p.count(3), 1);
    }
}
