/** Each sentence that names an edge of the plans: part 3, promises 21 to 24. */
public final class EdgesOfPlansTest {
    private static final int NONE = Check.NONE, BAD = Check.BAD;

    public static void main(String[] args) {
        for (Tale tale : Tales.some()) {
            stepTriedOut(tale);
            beginTriedOut(tale);
            dressTriedOut(tale);
            spareTriedOut(tale);
        }
        stepOfLikeOnes();
        stepInPlaceOfWhatIsTold();
        stepRefuses();
        beginWhereNobodyElseIs();
        beginOfLikeOnes();
        beginRefuses();
        dressOfLikeOnes();
        dressRefuses();
        spareNone();
        spareOne();
        spareTwo();
        spareMoreThanTwo();
        spareLeastRow();
        spareRefuses();
        Check.end("EdgesOfPlansTest");
    }

    private static void stepTriedOut(Tale tale) {
        Check.sentence("STEP in a BEAT, in place of what is told, by which HIGH behind BEAT 23 is most, of like ones the least");
        MayPole p = tale.make();
        for (int beat = 0; beat < 24; beat++) {
            int which = NONE, most = NONE;
            for (int s = 0; s < 4; s++) {
                int high = tale.stepped(beat, "oust".charAt(s)).high();
                if (high > most) {
                    most = high;
                    which = s;
                }
            }
            Check.due(tale + " step(" + beat + ", 0)", p.step(beat, 0), which);
            Check.due(tale + " step(" + beat + ", 1)", p.step(beat, 1), most);
        }
    }

    private static void beginTriedOut(Tale tale) {
        Check.sentence("BEGIN of one: the PLACE at first, where nobody else is, in place of one's own, likewise");
        MayPole p = tale.make();
        for (int d = 0; d < tale.many(); d++) {
            int which = NONE, most = NONE;
            for (int place = 0; place < 12; place++) {
                Tale other = tale.altered(d, 0, (char) ('a' + place));
                if (other.make().fault(0) != NONE) continue;
                if (other.high() > most) {
                    most = other.high();
                    which = place;
                }
            }
            Check.due(tale + " begin(" + d + ", 0)", p.begin(d, 0), which);
            Check.due(tale + " begin(" + d + ", 1)", p.begin(d, 1), most);
        }
    }

    private static void dressTriedOut(Tale tale) {
        Check.sentence("DRESS of one: the COLOUR (0 to 9), in place of one's own, by which RUN is least, of like ones the least");
        MayPole p = tale.make();
        for (int d = 0; d < tale.many(); d++) {
            int which = NONE, least = 1000;
            for (int colour = 0; colour <= 9; colour++) {
                int run = tale.altered(d, 2, (char) ('0' + colour)).make().run(0);
                if (run < least) {
                    least = run;
                    which = colour;
                }
            }
            Check.due(tale + " dress(" + d + ", 0)", p.dress(d, 0), which);
            Check.due(tale + " dress(" + d + ", 1)", p.dress(d, 1), least);
        }
    }

    private static void spareTriedOut(Tale tale) {
        Check.sentence("SPARE: the fewest EVENTS (0 to 2) that had better not be, so that none is on, of like ones the least row");
        int[] due = {NONE, NONE, NONE};
        int fewest = 3;
        int all = tale.allEvents(), n = tale.events().size();
        for (int a = 0; a < n; a++) {
            for (int b = a + 1; b < n && fewest > 2; b++) {
                if (tale.only(all & ~(1 << a) & ~(1 << b)).high() == 0) {
                    due = new int[] {2, a, b};
                    fewest = 2;
                }
            }
        }
        for (int a = n - 1; a >= 0; a--) {
            if (tale.only(all & ~(1 << a)).high() == 0) due = new int[] {1, a, NONE};
        }
        if (tale.high() == 0) due = new int[] {0, NONE, NONE};
        for (int i = NONE; i <= 1; i++) Check.due(tale + " spare(" + i + ")", tale.make().spare(i), due[i + 1]);
    }

    private static void stepOfLikeOnes() {
        Check.sentence("of like ones the least: which; how many");
        Check.due("none is on by any", Check.told("ar1;gl2", "").step(0, 0), 0);
        Check.due("none is on by any", Check.told("ar1;gl2", "").step(0, 1), 0);
        Check.due("o and u", Check.told("ar1;bl2", "").step(0, 0), 0);
        Check.due("o and u", Check.told("ar1;bl2", "").step(0, 1), 1);
        Check.due("u alone", Check.told("ar1;bl2", "uto").step(2, 0), 1);
        Check.due("u alone", Check.told("ar1;bl2", "uto").step(2, 1), 2);
        // They are two PLACES apart, as it is told that they turn and go on, and must not go farther before.
        Check.due("s alone", Check.told("ar1;kl2", "oto").step(0, 0), 2);
        Check.due("s alone", Check.told("ar1;kl2", "oto").step(0, 1), 1);
        // They go away from each other unless they turn.
        Check.due("t alone", Check.told("al1;er2", "soo").step(0, 0), 3);
        Check.due("t alone", Check.told("al1;er2", "soo").step(0, 1), 1);
    }

    private static void stepInPlaceOfWhatIsTold() {
        Check.sentence("STEP in a BEAT: in place of what is told");
        Check.due("in 0", Check.told("ar1;bl2", "").step(0, 1), 1);
        Check.due("in 23", Check.told("ar1;bl2", "").step(23, 1), 1);
        Check.due("in 23, all told", Check.told("ar1;bl2", "s".repeat(24)).step(23, 1), 1);
        MayPole p = Check.told("ar1;bl2", "otu");
        Check.due("in 2", p.step(2, 1), 2);
        Check.due("what is told stays", p.steps(2), 1);
        Check.due("none is on", p.high(23, 0), 0);
        Check.due("with a FAULT all others are s", Check.told("ar1;bl2", "otox").step(2, 1), 1);
        Check.due("nobody", new MayPole().step(23, 0), 0);
        Check.due("nobody", new MayPole().step(23, 1), 0);
    }

    private static void stepRefuses() {
        Check.sentence("which (what = 0), how many (1). BAD");
        MayPole p = Check.told("ar1;bl2", "o");
        for (int beat : Check.beside(0, 23)) Check.due("step BEAT " + beat, p.step(beat, 0), BAD);
        for (int what : Check.beside(0, 1)) Check.due("step what " + what, p.step(0, what), BAD);
    }

    private static void beginWhereNobodyElseIs() {
        Check.sentence("where nobody else is, in place of one's own");
        Check.due("one's own is best", Check.told("er1;fl2;gl1", "o").begin(0, 0), 4);
        MayPole eight = Check.told("al0;bl0;cl0;dl0;el0;fl0;gl0;hl0", "");
        for (int d = 0; d < 8; d++) Check.due("one's own is the least", eight.begin(d, 0), d);
        MayPole up = Check.told("hl0;gl0;fl0;el0;dl0;cl0;bl0;lr0", "");
        Check.due("0 is free", up.begin(0, 0), 0);
        Check.due("0 is free", up.begin(7, 0), 0);
        // The last PLACE is best for one who comes to 0 from there.
        MayPole last = Check.told("br0;al0", "o");
        Check.due("11 and 10", last.begin(0, 0), 10);
        last.event(0, 0, 1);
        Check.due("11 alone", last.begin(0, 0), 11);
        Check.due("one is on", last.begin(0, 1), 1);
        Check.due("the PLACE as told stays", last.dancer(0, 0), 1);
        // One more would be on from 0 or from 11, but both are taken, and behind 11 is none but 0.
        MayPole round = Check.told("al0;ll0;fl0;kr0", "o");
        Check.due("nowhere better than 1", round.begin(2, 0), 1);
        Check.due("two are on", round.begin(2, 1), 2);
    }

    private static void beginOfLikeOnes() {
        Check.sentence("BEGIN likewise: of like ones the least: which; how many");
        MayPole p = Check.told("lr0", "o");
        Check.due("alone", p.begin(0, 0), 0);
        Check.due("alone", p.begin(0, 1), 0);
        MayPole two = Check.told("lr0;gl0", "o");
        Check.due("4 and 5", two.begin(0, 0), 4);
        Check.due("one is on", two.begin(0, 1), 1);
        MayPole taken = Check.told("lr0;gl0;er0", "o");
        Check.due("4 is taken", taken.begin(0, 0), 5);
        Check.due("two are on", taken.begin(0, 1), 2);
    }

    private static void beginRefuses() {
        Check.sentence("BEGIN: which (what = 0), how many (1). BAD");
        MayPole p = Check.told("ar1;bl2", "o");
        for (int d : Check.beside(0, 1)) Check.due("begin " + d, p.begin(d, 0), BAD);
        for (int what : Check.beside(0, 1)) Check.due("begin what " + what, p.begin(0, what), BAD);
        Check.due("nobody", new MayPole().begin(0, 0), BAD);
        Check.due("with a FAULT", Check.told("ar1;", "o").begin(0, 0), BAD);
        MayPole eight = Check.told(Check.EIGHT, "o");
        Check.due("the eighth", eight.begin(7, 0) >= 0 ? 1 : 0, 1);
        Check.due("a ninth", eight.begin(8, 0), BAD);
    }

    private static void dressOfLikeOnes() {
        Check.sentence("DRESS: the COLOUR (0 to 9), by which RUN is least, of like ones the least: which; how many");
        MayPole alone = Check.told("ar9", "o");
        Check.due("no RUN", alone.dress(0, 0), 0);
        Check.due("no RUN", alone.dress(0, 1), 0);
        // 0 and then 1 is OVER.
        MayPole p = Check.told("ar0;bl0", "oto");
        Check.due("not 0", p.dress(0, 0), 1);
        Check.due("each alone", p.dress(0, 1), 1);
        Check.due("COLOURS as told stay", p.dancer(0, 2), 0);
        MayPole least = Check.told("ar9;bl1", "oto");
        Check.due("0 though 9 would do", least.dress(0, 0), 0);
        MayPole always = Check.told("ar5;gl6", Check.ALL_O);
        Check.due("one alone is OVER", always.dress(0, 0), 0);
        Check.due("of four", always.dress(0, 1), 4);
        Check.due("who is UNDER", always.dress(1, 1), 4);
    }

    private static void dressRefuses() {
        Check.sentence("DRESS: which (what = 0), how many (1). BAD");
        MayPole p = Check.told("ar1;bl2", "o");
        for (int d : Check.beside(0, 1)) Check.due("dress " + d, p.dress(d, 0), BAD);
        for (int what : Check.beside(0, 1)) Check.due("dress what " + what, p.dress(0, what), BAD);
        Check.due("nobody", new MayPole().dress(0, 0), BAD);
        Check.due("with a FAULT", Check.told("ar1;", "o").dress(0, 0), BAD);
        Check.due("a ninth", Check.told(Check.EIGHT, "o").dress(8, 0), BAD);
    }

    private static void spares(MayPole p, int many, int first, int second) {
        Check.due("spare(NONE)", p.spare(NONE), many);
        Check.due("spare(0)", p.spare(0), first);
        Check.due("spare(1)", p.spare(1), second);
    }

    private static void spareNone() {
        Check.sentence("SPARE: the fewest EVENTS (0 to 2): how many; the i-th; NONE");
        spares(new MayPole(), 0, NONE, NONE);
        spares(Tale.of("ar1;bl2", "otu").make(), 0, NONE, NONE);
        spares(Tale.of("ar1;bl2", "otu").event(0, 0, 7).make(), 0, NONE, NONE);
        spares(Tale.of("ar1;bl2", "o").make(), NONE, NONE, NONE);
        spares(Tale.of("ar1;bl2", "o").event(0, 0, 7).event(0, 0, 6).make(), NONE, NONE, NONE);
    }

    private static void spareOne() {
        Check.sentence("SPARE: one");
        for (int at = 0; at < 8; at++) {
            Tale tale = Tale.of("ar1;bl2", "otu");
            for (int e = 0; e < 8; e++) tale = e == at ? tale.event(1, 2, 0) : tale.event(0, 23, 7);
            spares(tale.make(), 1, at, NONE);
        }
    }

    private static void spareTwo() {
        Check.sentence("SPARE: two (each more than the one ahead)");
        for (int a = 0; a < 8; a++) {
            for (int b = a + 1; b < 8; b++) {
                Tale tale = Tale.of("ar1;bl2", "otu");
                for (int e = 0; e < 8; e++) tale = e == a || e == b ? tale.event(2, 1, 0) : tale.event(0, 23, 7);
                spares(tale.make(), 2, a, b);
            }
        }
    }

    private static void spareMoreThanTwo() {
        Check.sentence("(0 to 2); NONE");
        Tale tale = Tale.of("ar1;bl2", "otu").event(2, 1, 0).event(2, 1, 1).event(2, 2, 0);
        spares(tale.make(), NONE, NONE, NONE);
        spares(tale.only(3).make(), 2, 0, 1);
        spares(tale.only(1).make(), 1, 0, NONE);
    }

    private static void spareLeastRow() {
        Check.sentence("of like ones the least row");
        // It comes off if just one goes WRONG in 2, whichever.
        Tale one = Tale.of("ar1;bl2", "oto").event(1, 2, 0).event(1, 2, 1);
        spares(one.make(), 1, 0, NONE);
        Tale twice = one.event(1, 2, 0);
        spares(twice.make(), 1, 1, NONE);
        // Just one of them goes WRONG without 0 and 3, or without 1 and 2.
        Tale pairs = Tale.of("ar1;bl2", "oto").event(1, 2, 0).event(1, 2, 1).event(1, 2, 1).event(1, 2, 0);
        spares(pairs.make(), 2, 0, 3);
        Tale onlyLast = Tale.of("ar1;bl2", "otu").event(0, 9, 7).event(0, 9, 7).event(1, 2, 1);
        spares(onlyLast.make(), 1, 2, NONE);
    }

    private static void spareRefuses() {
        Check.sentence("how many (i = NONE), the i-th (0, 1; NONE); NONE. BAD");
        for (MayPole p : new MayPole[] {new MayPole(), Check.told("ar1;bl2", "o"), Check.told("ar1;bl2", "otu")}) {
            for (int i : Check.beside(NONE, 1)) Check.due("spare(" + i + ")", p.spare(i), BAD);
        }
    }
}
