import java.math.BigInteger;

/** Promise 40: what goes into the digest, in what order, "as longs that wrap". */
public final class EdgesOfDigestTest {
    private static final int NONE = Check.NONE;

    private final MayPole pole;
    private BigInteger h = BigInteger.valueOf(17);

    private EdgesOfDigestTest(MayPole pole) {
        this.pole = pole;
    }

    public static void main(String[] args) {
        Check.sentence("h is 17; h becomes 31 h and each of ..; as longs that wrap");
        for (Tale tale : Tales.some()) {
            same(tale);
            same(tale.saw(23, tale.high()));
            same(tale.saw(9, 1).saw(3, 0));
        }
        same(Tale.of("ar1;bl2;", "oouu").event(1, 0, 0));
        same(Tale.of("ar1;bl2", "oouux").event(1, 0, 0));
        same(Tale.of("x", "x").saw(0, 120));
        same(Tale.of("ar1;bl2", "otu").event(0, 0, 5).event(1, 2, 0));
        sheetsAndFindingsAreNotInIt();
        askingChangesNothing();
        Check.end("EdgesOfDigestTest");
    }

    private static void same(Tale tale) {
        Check.due(tale + " digest()", tale.make().digest(), new EdgesOfDigestTest(tale.make()).byHand());
    }

    private void and(long v) {
        h = h.multiply(BigInteger.valueOf(31)).add(BigInteger.valueOf(v));
    }

    private long byHand() {
        for (int what = 0; what <= 7; what++) and(pole.count(what));
        for (int text = 0; text <= 1; text++) and(pole.fault(text));
        for (int beat = 0; beat < 24; beat++) {
            and(pole.steps(beat));
            and(pole.high(beat, 0));
            and(pole.high(beat, 1));
        }
        for (int i = 0; i < 24; i++) {
            for (int what = 0; what <= 2; what++) and(pole.weave(i, what));
        }
        for (int colour = 0; colour <= 9; colour++) and(pole.shows(colour));
        for (int d = 0; d < pole.count(0); d++) dancer(d);
        for (int beat : new int[] {3, 11, 23}) {
            and(pole.step(beat, 0));
            and(pole.step(beat, 1));
            and(pole.chance(5, beat, 0));
            and(pole.chance(5, beat, 1));
        }
        for (int what = 0; what <= 2; what++) and(pole.sum(what));
        int[] rest = {pole.run(0), pole.run(1), pole.bare(), pole.top(), pole.lacks(), pole.spare(NONE), pole.spare(0),
            pole.never(), pole.lengths(), pole.ask(), pole.dances(7, 18, 0), pole.dances(7, 18, 1)};
        for (int v : rest) and(v);
        return h.longValue();
    }

    private void dancer(int d) {
        for (int what = 0; what <= 2; what++) and(pole.dancer(d, what));
        for (int beat : new int[] {0, 6, 13, 23}) {
            for (int what = 0; what <= 2; what++) and(pole.at(beat, d, what));
        }
        and(pole.begin(d, 0));
        and(pole.begin(d, 1));
        and(pole.dress(d, 0));
        and(pole.dress(d, 1));
        and(pole.ways(d));
    }

    private static void sheetsAndFindingsAreNotInIt() {
        Check.sentence("each of: count() 0 to 7");
        MayPole p = Tale.of("ar1;dl2", "oouu").event(1, 1, 0).make();
        long was = p.digest();
        Check.due("NULL", p.lose(0), Check.NULL);
        Check.layAll(p, 0, 0, 1, 2, 3);
        p.write(0);
        Check.due("digest()", p.digest(), was);
        p.seen(0, 0);
        Check.due("SEEN are", p.digest() == was ? 1 : 0, 0);
        p.forget();
        Check.due("digest()", p.digest(), was);
    }

    private static void askingChangesNothing() {
        Check.sentence("in place of what is told");
        for (Tale tale : Tales.some()) {
            for (int part = 0; part < 7; part++) {
                MayPole asked = tale.make();
                long was = asked.digest();
                Probe.PARTS.get(part).apply(asked);
                Check.due(tale + " digest() behind all that is asked", asked.digest(), was);
            }
        }
    }
}
