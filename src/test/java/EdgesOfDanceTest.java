/** Each sentence that names an edge of what is done in a BEAT: the head, Terms. */
public final class EdgesOfDanceTest {
    private static final String LAST_BEAT_O = "s".repeat(23) + "o";

    public static void main(String[] args) {
        roundTheRing();
        meetingWhereTheRingCloses();
        firstAndLastBeat();
        eventsComeFirst();
        lettingGoForGood();
        turning();
        standing();
        allAtOnce();
        stumbling();
        noneLeftAtTheBeginning();
        noneLeftAndLettingGo();
        noneLeftAndUnwound();
        meetingByChange();
        meetingAtOnePlace();
        atOnePlaceAlready();
        unlikeWays();
        lookedAtByNumbers();
        bothHold();
        overAndUnder();
        justOneGoesWrong();
        unwound();
        notUnwound();
        unwoundOneBehindAnother();
        anyIsLeft();
        takesOneOfBoth();
        Check.end("EdgesOfDanceTest");
    }

    private static void highs(MayPole p, int... due) {
        for (int beat = 0; beat < due.length; beat++) Check.due("high(" + beat + ", 0)", p.high(beat, 0), due[beat]);
    }

    private static void mets(MayPole p, int... due) {
        for (int beat = 0; beat < due.length; beat++) Check.due("high(" + beat + ", 1)", p.high(beat, 1), due[beat]);
    }

    private static void places(MayPole p, int dancer, int... due) {
        for (int beat = 0; beat < due.length; beat++) {
            Check.due("at(" + beat + ", " + dancer + ", 0)", p.at(beat, dancer, 0), due[beat]);
        }
    }

    private static void roundTheRing() {
        Check.sentence("THE RING has 12 PLACES, 0 to 11, round; behind 11 comes 0");
        for (int place = 0; place < 12; place++) {
            char letter = (char) ('a' + place);
            MayPole up = Check.told(letter + "r0", Check.ALL_O), down = Check.told(letter + "l0", "u".repeat(24));
            for (int beat = 0; beat < 24; beat++) {
                Check.due("up", up.at(beat, 0, 0), (place + beat + 1) % 12);
                Check.due("down", down.at(beat, 0, 0), (place + 23 - beat) % 12);
            }
        }
    }

    private static void meetingWhereTheRingCloses() {
        Check.sentence("round; who have changed PLACES in that BEAT, or are at one PLACE then");
        mets(Check.told("lr0;al0", "oo"), 1, 0);
        mets(Check.told("al0;lr0", "oo"), 1, 0);
        mets(Check.told("lr0;bl0", "oo"), 1, 0);
        mets(Check.told("kr0;al0", "oo"), 1, 0);
        mets(Check.told("kr0;bl0", "oo"), 0, 1);
        mets(Check.told("ll0;ar0", "ooooo"), 0, 0, 0, 0, 0);
        mets(Check.told("ll0;ar0", "oooooo"), 0, 0, 0, 0, 0, 1);
    }

    private static void firstAndLastBeat() {
        Check.sentence("BEATS are 0 to 23");
        MayPole p = Check.told("ar0;bl0", LAST_BEAT_O);
        Check.due("ahead of the last", p.high(22, 0), 0);
        Check.due("in the last", p.high(23, 0), 1);
        Check.due("met in the last", p.sum(0), 1);
        Check.due("the BEAT", p.weave(0, 2), 23);
        p.event(0, 23, 0);
        p.event(0, 23, 1);
        Check.due("EVENTS of the last", p.high(23, 0), 0);
        MayPole q = Check.told("ar0;bl0", "o");
        Check.due("in the first", q.weave(0, 2), 0);
        q.event(0, 0, 0);
        q.event(0, 0, 1);
        Check.due("EVENTS of the first", q.high(0, 0), 0);
    }

    private static void eventsComeFirst() {
        Check.sentence("In a BEAT first its EVENTS are done, as told");
        for (int who = 0; who < 2; who++) {
            MayPole p = Check.told("ar0;bl0", "o");
            p.event(2, 0, who);
            Check.due("who lets go in it weaves nothing in it", p.high(0, 0), 0);
            MayPole later = Check.told("ar0;bl0", "o");
            later.event(2, 1, who);
            Check.due("who lets go in the next one has woven", later.high(23, 0), 1);
        }
    }

    private static void lettingGoForGood() {
        Check.sentence("who LETS GO holds none from then on, for good");
        MayPole p = Check.told("ar0;gl0", Check.ALL_O);
        p.event(2, 3, 0);
        mets(p, 0, 0, 1, 0, 0, 0, 0, 0, 1, 0, 0, 0, 0, 0, 1, 0, 0, 0, 0, 0, 1, 0, 0, 0);
        Check.due("woven before", p.sum(1), 1);
        Check.due("none is woven any more", p.high(23, 0), 1);
        for (String step : new String[] {"s", "t", "o", "u"}) {
            MayPole q = Check.told("ar0;cl0", step + "oott" + "oo");
            q.event(2, 0, 0);
            Check.due("by " + step + " too", q.sum(1), 0);
            Check.due("by " + step + " too", q.count(6), 1);
        }
    }

    private static void turning() {
        Check.sentence("Then by t all turn about: who went rightward goes leftward, and the other way round");
        MayPole p = Check.told("ar0;gl0", "ttt");
        p.event(0, 0, 0);
        p.event(1, 0, 1);
        p.event(2, 0, 1);
        for (int beat = 0; beat < 3; beat++) {
            Check.due("who stumbles too", p.at(beat, 0, 1), beat % 2 == 0 ? 1 : 0);
            Check.due("who lets go too", p.at(beat, 1, 1), beat % 2 == 0 ? 0 : 1);
            Check.due("nobody goes on", p.at(beat, 0, 0), 0);
            Check.due("nobody goes on", p.at(beat, 1, 0), 6);
        }
        MayPole bare = Check.told("ar0;gl0", "oooooooooot");
        bare.ribbons(2);
        Check.due("none is left", bare.at(9, 0, 2), 0);
        Check.due("who has none left too", bare.at(10, 0, 1), 1);
        MayPole side = Check.told("ar0;bl0", "t");
        Check.due("by t nobody MEETS", side.sum(0), 0);
        Check.due("for good", Check.told("ar0", "tooo").at(23, 0, 0), 9);
    }

    private static void standing() {
        Check.sentence("by s nobody does anything");
        MayPole p = Check.told("ar0;bl0", "sss");
        p.event(0, 1, 0);
        p.event(1, 1, 1);
        for (int beat = 0; beat < 3; beat++) {
            for (int d = 0; d < 2; d++) {
                Check.due("place", p.at(beat, d, 0), d);
                Check.due("way", p.at(beat, d, 1), d);
                Check.due("left", p.at(beat, d, 2), 20);
            }
        }
        mets(p, 0, 0, 0);
    }

    private static void allAtOnce() {
        Check.sentence("by o, u all go on by one PLACE, each their way, all at once");
        for (String step : new String[] {"o", "u"}) {
            MayPole p = Check.told("ar0;br0;cl0;dl0", step);
            int[] due = {1, 2, 1, 2};
            for (int d = 0; d < 4; d++) Check.due("at(0, " + d + ", 0)", p.at(0, d, 0), due[d]);
        }
    }

    private static void stumbling() {
        Check.sentence("but who STUMBLES");
        MayPole p = Check.told("lr0;fl0", "ooo");
        p.event(0, 1, 0);
        p.event(0, 1, 0);
        places(p, 0, 0, 0, 1);
        places(p, 1, 4, 3, 2);
        Check.due("goes the same way", p.at(23, 0, 1), 0);
        p.event(0, 0, 1);
        places(p, 1, 5, 4, 3);
    }

    private static void noneLeftAtTheBeginning() {
        Check.sentence("or holds a RIBBON of which none is left (at the beginning of the BEAT)");
        MayPole p = Check.told("ar0;gl0", Check.ALL_O);
        p.ribbons(2);
        Check.due("one is left ahead of it", p.at(7, 0, 2), 1);
        Check.due("the last is used in 8", p.at(8, 0, 2), 0);
        places(p, 0, 1, 2, 3, 4, 5, 6, 7, 8, 9, 9, 9);
        places(p, 1, 5, 4, 3, 2, 1, 0, 11, 10, 9, 9, 9);
        Check.due("for good", p.at(23, 0, 0), 9);
        p.ribbons(3);
        Check.due("one is left behind 8", p.at(9, 0, 0), 10);
    }

    private static void noneLeftAndLettingGo() {
        Check.sentence("holds a RIBBON of which none is left");
        MayPole p = Check.told("ar0;gl0", Check.ALL_O);
        p.ribbons(2);
        p.event(2, 12, 0);
        Check.due("holds it behind 11", p.at(11, 0, 0), 9);
        Check.due("lets go in 12 and goes on in it", p.at(12, 0, 0), 10);
        Check.due("and on", p.at(23, 0, 0), 9);
        Check.due("the other one stays", p.at(23, 1, 0), 9);
        Check.due("they MEET again in 23", p.high(23, 1), 1);
        Check.due("but weave nothing", p.high(23, 0), 2);
    }

    private static void noneLeftAndUnwound() {
        Check.sentence("of which none is left (at the beginning of the BEAT)");
        MayPole p = Check.told("ar0;dl0;cl0", "ootuu");
        p.ribbons(2);
        highs(p, 1, 2, 2, 1, 0);
        Check.due("none is left of 0", p.at(1, 0, 2), 0);
        Check.due("one is left of 1", p.at(1, 1, 2), 1);
        Check.due("in 3 it comes off, but 0 had none at its beginning", p.at(3, 0, 0), 2);
        Check.due("1 came there", p.at(3, 1, 0), 2);
        Check.due("one is left again", p.at(3, 0, 2), 1);
        Check.due("so 0 goes on in 4", p.at(4, 0, 0), 1);
        Check.due("all is left again", p.at(4, 0, 2), 2);
        Check.due("unwound", p.sum(2), 2);
    }

    private static void meetingByChange() {
        Check.sentence("those two MEET, of unlike ways, who have changed PLACES in that BEAT");
        for (String step : new String[] {"o", "u"}) {
            mets(Check.told("ar0;bl0", step), 1, 0);
            mets(Check.told("dr0;el0", step), 1, 0);
            mets(Check.told("br0;al0", step), 0, 0);
        }
        mets(Check.told("ar0;dl0", "oo"), 0, 1);
        mets(Check.told("ar0;bl0", "st"), 0, 0);
        MayPole taken = Check.told("ar0;bl0", "o");
        taken.event(0, 0, 1);
        Check.due("1 stood where 0 came", taken.high(0, 1), 1);
        Check.due("at one PLACE", taken.at(0, 0, 0), taken.at(0, 1, 0));
    }

    private static void meetingAtOnePlace() {
        Check.sentence("or are at one PLACE then and were not at the beginning of the BEAT");
        mets(Check.told("ar0;cl0", "ooo"), 1, 0, 0);
        mets(Check.told("cl0;ar0", "uuu"), 1, 0, 0);
        mets(Check.told("ar0;el0", "ooo"), 0, 1, 0);
        MayPole both = Check.told("ar0;bl0", "o");
        both.event(0, 0, 0);
        both.event(0, 0, 1);
        Check.due("side by side is not at one PLACE", both.high(0, 1), 0);
    }

    private static void atOnePlaceAlready() {
        Check.sentence("and were not at the beginning of the BEAT");
        MayPole p = Check.told("ar0;cl0", "oo");
        p.event(0, 1, 0);
        p.event(0, 1, 1);
        mets(p, 1, 0);
        Check.due("both are at 1 still", p.at(1, 0, 0) + p.at(1, 1, 0), 2);
        MayPole one = Check.told("ar0;cl0", "ooo");
        one.event(0, 1, 1);
        mets(one, 1, 0, 0);
        MayPole back = Check.told("ar0;cl0", "oto");
        mets(back, 1, 0, 0);
        MayPole apart = Check.told("ar0;cl0", "ootoo");
        Check.due("apart and together again", apart.sum(0), 2);
        mets(apart, 1, 0, 0, 1, 0);
    }

    private static void unlikeWays() {
        Check.sentence("of unlike ways");
        MayPole p = Check.told("ar0;br0", "o");
        p.event(0, 0, 1);
        Check.due("at one PLACE, of like ways", p.high(0, 1), 0);
        MayPole q = Check.told("al0;bl0", "o");
        q.event(0, 0, 0);
        Check.due("at one PLACE, of like ways", q.high(0, 1), 0);
        MayPole r = Check.told("ar0;br0;cl0", "o");
        r.event(0, 0, 1);
        Check.due("0 with 2, 1 with 2", r.high(0, 1), 2);
        Check.due("first 0 with 2", r.weave(0, 0), 0);
        Check.due("then 1 with 2", r.weave(1, 0), 1);
    }

    private static void lookedAtByNumbers() {
        Check.sentence("All who MEET are looked at by numbers (0 with 1, 0 with 2, .., 1 with 2, ..)");
        // Four of each way, side by side, so that many MEET in one BEAT.
        MayPole p = Check.told("ar0;el0;br0;fl0;cr0;gl0;dr0;hl0", "oooo");
        mets(p, 3, 7, 5, 1);
        for (int i = 1; i < 16; i++) {
            int[] was = row(p, i - 1), is = row(p, i);
            boolean later = is[0] > was[0] || is[0] == was[0] && (is[1] > was[1] || is[1] == was[1] && is[2] > was[2]);
            Check.due("the " + i + "-th comes behind the one ahead", later ? 1 : 0, 1);
        }
        Check.due("16 pairs", p.high(23, 0), 16);
    }

    private static int[] row(MayPole p, int i) {
        int over = p.weave(i, 0), under = p.weave(i, 1);
        return new int[] {p.weave(i, 2), Math.min(over, under), Math.max(over, under)};
    }

    private static void bothHold() {
        Check.sentence("If both hold RIBBONS");
        for (int set = 0; set < 4; set++) {
            MayPole weaving = Check.told("ar0;bl0", "so"), unwinding = Check.told("ar0;bl0", "otu");
            for (int who = 0; who < 2; who++) {
                if ((set >> who & 1) != 0) weaving.event(2, 0, who);
                if ((set >> who & 1) != 0) unwinding.event(2, 1, who);
            }
            Check.due("they MEET all the same", weaving.high(1, 1), 1);
            Check.due("woven if both hold", weaving.high(1, 0), set == 0 ? 1 : 0);
            Check.due("they MEET all the same", unwinding.high(2, 1), 1);
            Check.due("unwound if both hold", unwinding.high(2, 0), set == 0 ? 0 : 1);
        }
    }

    private static void overAndUnder() {
        Check.sentence("by o the one who goes rightward is OVER the other one, by u the one who goes leftward");
        for (String both : new String[] {"ar0;bl0", "bl0;ar0", "ar0;cl0", "cl0;ar0"}) {
            int rightward = both.charAt(1) == 'r' ? 0 : 1;
            Check.due("o over", Check.told(both, "o").weave(0, 0), rightward);
            Check.due("o under", Check.told(both, "o").weave(0, 1), 1 - rightward);
            Check.due("u over", Check.told(both, "u").weave(0, 0), 1 - rightward);
            Check.due("u under", Check.told(both, "u").weave(0, 1), rightward);
            MayPole still = Check.told(both, "o");
            still.event(0, 0, rightward);
            if (both.contains("b")) Check.due("who stumbles has a way too", still.weave(0, 0), rightward);
        }
        MayPole turned = Check.told("bl0;ar0", "oto");
        Check.due("the way is that of the BEAT", turned.weave(1, 0), 0);
    }

    private static void justOneGoesWrong() {
        Check.sentence("the other way round, if just one of both goes WRONG");
        for (int set = 0; set < 4; set++) {
            for (String step : new String[] {"o", "u"}) {
                MayPole p = Check.told("ar0;bl0", step);
                for (int who = 0; who < 2; who++) {
                    for (int twice = 0; twice < 2 && (set >> who & 1) != 0; twice++) p.event(1, 0, who);
                }
                int usual = step.equals("o") ? 0 : 1;
                Check.due("over", p.weave(0, 0), set == 1 || set == 2 ? 1 - usual : usual);
                Check.due("under", p.weave(0, 1), set == 1 || set == 2 ? usual : 1 - usual);
            }
        }
        MayPole three = Check.told("ar0;bl0;cl0", "o");
        three.event(1, 0, 1);
        Check.due("0 with 1", three.weave(0, 0), 1);
        Check.due("0 with 2", three.weave(1, 0), 0);
        MayPole next = Check.told("ar0;dl0", "oo");
        next.event(1, 0, 0);
        next.event(1, 2, 0);
        Check.due("in that BEAT alone", next.weave(0, 0), 0);
    }

    private static void unwound() {
        Check.sentence("of the same two, with the same one OVER, who went the other ways then, that comes off");
        highs(Check.told("ar0;bl0", "otu"), 1, 1, 0, 0);
        highs(Check.told("ar0;bl0", "uto"), 1, 1, 0, 0);
        highs(Check.told("bl0;ar0", "otu"), 1, 1, 0, 0);
        MayPole p = Check.told("ar0;bl0", "otutotu");
        highs(p, 1, 1, 0, 0, 1, 1, 0);
        Check.due("woven", p.sum(1), 2);
        Check.due("unwound", p.sum(2), 2);
        MayPole wrong = Check.told("ar0;bl0", "oto");
        wrong.event(1, 2, 0);
        highs(wrong, 1, 1, 0);
        Check.due("left of both", wrong.at(2, 0, 2) + wrong.at(2, 1, 2), 40);
    }

    private static void notUnwound() {
        Check.sentence("Else this is WOVEN");
        highs(Check.told("ar0;bl0", "oto"), 1, 1, 2);
        MayPole wrong = Check.told("ar0;bl0", "otu");
        wrong.event(1, 2, 0);
        highs(wrong, 1, 1, 2);
        MayPole sameWays = Check.told("ar0;gl0", Check.ALL_O);
        Check.due("the same ways", sameWays.high(23, 0), 4);
        Check.due("the same ways", sameWays.sum(2), 0);
        MayPole others = Check.told("ar0;bl0;gr0;hl0", "otu");
        highs(others, 2, 2, 4);
        Check.due("what is lowest is of another two", others.sum(2), 0);
        MayPole sharing = Check.told("ar0;bl0;cl0", "otu");
        highs(sharing, 2, 2, 3);
        Check.due("of one of the two, and another", sharing.sum(2), 0);
    }

    private static void unwoundOneBehindAnother() {
        Check.sentence("what was woven last (and is still on)");
        MayPole p = Check.told("ar0;bl0", "oooooou" + "t" + "ouuuuuu");
        Check.due("two are on", p.high(7, 0), 2);
        Check.due("the lowest comes off", p.high(8, 0), 1);
        Check.due("then it is the first that was woven last and is on", p.high(14, 0), 0);
        MayPole both = Check.told("ar0;dl0;cl0", "ootuu");
        mets(both, 1, 1, 0, 2, 0);
        highs(both, 1, 2, 2, 0, 0);
        // The same dance, but by numbers the one that is on above would have to come off first.
        MayPole neither = Check.told("ar0;cl0;dl0", "ootuu");
        mets(neither, 1, 1, 0, 2, 0);
        highs(neither, 1, 2, 2, 4, 4);
    }

    private static void anyIsLeft() {
        Check.sentence("Else, if of both RIBBONS any is left, this is WOVEN");
        MayPole p = Check.told("ar0;dl0;el0;bl0", "oo");
        p.ribbons(2);
        mets(p, 1, 2);
        highs(p, 1, 2);
        Check.due("0 with 1 is looked at first", p.weave(1, 1), 1);
        Check.due("then none is left for 0 with 2", p.at(1, 2, 2), 2);
        Check.due("sum(0)", p.sum(0), 3);
        Check.due("sum(1)", p.sum(1), 2);
        MayPole q = Check.told("ar0;el0;dl0;bl0", "oo");
        q.ribbons(2);
        Check.due("0 with 1 is looked at first", q.weave(1, 1), 1);
        Check.due("then none is left for 0 with 2", q.at(1, 2, 2), 2);
        p.ribbons(3);
        highs(p, 1, 3);
        // 0 has none left and stands at 2; 3 comes there with two left.
        MayPole come = Check.told("ar0;cl0;el0;hl0", "oooooo");
        come.ribbons(2);
        mets(come, 1, 1, 0, 0, 1, 0);
        highs(come, 1, 2, 2, 2, 2, 2);
        Check.due("left of 3", come.at(23, 3, 2), 2);
        MayPole other = Check.told("hl0;cl0;el0;ar0", "oooooo");
        other.ribbons(2);
        highs(other, 1, 2, 2, 2, 2, 2);
        Check.due("left of 0", other.at(23, 0, 2), 2);
    }

    private static void takesOneOfBoth() {
        Check.sentence("Each that is on takes 1 of both RIBBONS");
        MayPole p = Check.told("ar0;bl0;cl0;gr0", "ot");
        int[] due = {18, 19, 19, 20};
        for (int d = 0; d < 4; d++) Check.due("left of " + d, p.at(0, d, 2), due[d]);
        for (int d = 0; d < 4; d++) Check.due("left of " + d + " later", p.at(23, d, 2), due[d]);
        p.event(2, 1, 0);
        Check.due("of one who LET GO too", p.at(1, 0, 2), 18);
    }
}
