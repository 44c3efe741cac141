/** Each sentence of the document that names an edge of the two texts: Terms, promises 1 to 7. */
public final class EdgesOfTextsTest {
    private static final int NONE = Check.NONE, BAD = Check.BAD, NOT = Check.NOT, FULL = Check.FULL;
    private static final int STAND = 2;

    public static void main(String[] args) {
        newObject();
        objectsAreApart();
        bytesOfEachText();
        fullWithDancers();
        bytesFrom0To255();
        noSuchText();
        eachByteInEachPartOfDancers();
        eachByteOfSteps();
        firstByteItCannotGoOnWith();
        notEnded();
        letterOfAnother();
        ninthOfDancers();
        dancersWithFault();
        stepsWithFault();
        wipe();
        undo();
        dancer();
        steps();
        Check.end("EdgesOfTextsTest");
    }

    private static void newObject() {
        Check.sentence("No DANCERS, no STEPS told, RIBBONS 20 long, no EVENTS; all SHEETS are LOST");
        MayPole p = new MayPole();
        int[] counts = {0, 0, 0, 0, 0, 20, 0, 0, 0};
        for (int what = 0; what <= 8; what++) Check.due("count(" + what + ")", p.count(what), counts[what]);
        for (int text = 0; text <= 1; text++) Check.due("fault(" + text + ")", p.fault(text), NONE);
        for (int text = 0; text <= 1; text++) Check.due("undo(" + text + ")", p.undo(text), NOT);
        for (int beat = 0; beat < 24; beat++) Check.due("steps(" + beat + ")", p.steps(beat), STAND);
        Check.due("dancer(0, 0)", p.dancer(0, 0), BAD);
        Check.due("back()", p.back(), NOT);
        Check.due("forget()", p.forget(), 0);
        Check.due("no finding so far", p.count(8), 0);
        for (int s = 0; s <= 3; s++) Check.due("lose(" + s + ")", p.lose(s), Check.NULL);
        Check.due("ribbons(20)", p.ribbons(20), 20);
    }

    private static void objectsAreApart() {
        MayPole told = Check.told("ar1;bl2", "o");
        told.event(1, 0, 0);
        told.seen(0, 9);
        told.ribbons(2);
        told.sheet(0, 0, 3);
        told.lose(1);
        newObject();
        Check.due("the one told stays", told.count(2), 8);
    }

    private static void bytesOfEachText() {
        Check.sentence("a text of up to 31 bytes (text 0); a text of up to 24 bytes (text 1)");
        int[] limits = {31, 24};
        for (int text = 0; text <= 1; text++) {
            MayPole p = new MayPole();
            for (int i = 1; i <= limits[text]; i++) Check.due("type", p.type(text, 'o'), i);
            Check.due("one more", p.type(text, 'o'), FULL);
            Check.due("count(2)", p.count(2), limits[text]);
            Check.due("the other text has room", p.type(1 - text, 'o'), 1);
            Check.due("undo", p.undo(text), limits[text] - 1);
            Check.due("room for one", p.type(text, 'o'), limits[text]);
            Check.due("and no more", p.type(text, 'o'), FULL);
            Check.due("wipe", p.wipe(text), limits[text]);
            Check.due("from the beginning", p.type(text, 'o'), 1);
        }
    }

    private static void fullWithDancers() {
        Check.sentence("8 at most (0 on)");
        MayPole p = Check.told(Check.EIGHT, "");
        Check.due("count(0)", p.count(0), 8);
        Check.due("fault(0)", p.fault(0), NONE);
        for (int d = 0; d < 8; d++) {
            Check.due("place", p.dancer(d, 0), d);
            Check.due("way", p.dancer(d, 1), d % 2);
            Check.due("colour", p.dancer(d, 2), d);
        }
        for (int what = 0; what <= 2; what++) Check.due("a ninth", p.dancer(8, what), BAD);
    }

    private static void bytesFrom0To255() {
        Check.sentence("A byte (0 to 255) comes behind a text: how many. BAD; FULL");
        for (int text = 0; text <= 1; text++) {
            for (int b = 0; b <= 255; b++) {
                MayPole p = new MayPole();
                Check.due("type(" + text + ", " + b + ")", p.type(text, b), 1);
                Check.due("count(2)", p.count(2), 1);
            }
            MayPole p = new MayPole();
            for (int b : Check.beside(0, 255)) Check.due("type(" + text + ", " + b + ")", p.type(text, b), BAD);
            for (int b : new int[] {'o' + 256, 'o' - 256}) Check.due("type(" + text + ", " + b + ")", p.type(text, b), BAD);
            Check.due("count(2)", p.count(2), 0);
            for (int i = 0; i < 31; i++) p.type(text, 255);
            Check.due("full", p.type(text, 0), FULL);
            Check.due("BAD ahead of FULL", p.type(text, 256), BAD);
            Check.due("BAD ahead of FULL", p.type(text, -1), BAD);
        }
    }

    private static void noSuchText() {
        Check.sentence("BAD -2 (a number not as told, no such thing)");
        MayPole p = Check.told("ar1", "o");
        for (int text : Check.beside(0, 1)) {
            Check.due("type(" + text + ")", p.type(text, 'o'), BAD);
            Check.due("wipe(" + text + ")", p.wipe(text), BAD);
            Check.due("undo(" + text + ")", p.undo(text), BAD);
            Check.due("fault(" + text + ")", p.fault(text), BAD);
        }
        Check.due("count(2)", p.count(2), 4);
    }

    private static void faultOf(int text, String bytes, int due) {
        MayPole p = new MayPole();
        for (int i = 0; i < bytes.length(); i++) p.type(text, bytes.charAt(i));
        Check.due("fault of " + bytes, p.fault(text), due);
    }

    private static void eachByteInEachPartOfDancers() {
        Check.sentence("a letter a to l, r or l, a figure 0 to 9, with ; between them");
        String[] allowed = {"abcdefghijkl", "rl", "0123456789", ";"};
        String first = "br5;";
        for (int part = 0; part < 4; part++) {
            for (int b = 0; b <= 255; b++) {
                boolean goesOn = allowed[part].indexOf(b) >= 0;
                int due = !goesOn ? part : part == 2 ? NONE : part + 1;
                faultOf(0, first.substring(0, part) + (char) b, due);
                boolean goesOnLater = goesOn && !(part == 0 && b == 'b');
                int dueLater = !goesOnLater ? part + 4 : part == 2 ? NONE : part + 5;
                faultOf(0, first + "cl6;".substring(0, part) + (char) b, dueLater);
            }
        }
    }

    private static void eachByteOfSteps() {
        Check.sentence("o (over), u (under), s (stand) or t (turn)");
        for (int b = 0; b <= 255; b++) {
            int step = "oust".indexOf(b);
            for (int place : new int[] {0, 1, 23}) {
                MayPole p = Check.told("", "t".repeat(place) + (char) b);
                Check.due("fault", p.fault(1), step >= 0 ? NONE : place);
                Check.due("steps(" + place + ")", p.steps(place), step >= 0 ? step : STAND);
                if (place > 0) Check.due("steps(0)", p.steps(0), step >= 0 ? 3 : STAND);
            }
        }
    }

    private static void firstByteItCannotGoOnWith() {
        Check.sentence("The FAULT of a text is the place of the first byte with which it cannot go on");
        faultOf(0, "xx", 0);
        faultOf(0, "x" + Check.EIGHT.substring(1), 0);
        faultOf(0, "axx", 1);
        faultOf(0, "ar0;br0:cr0;dr0!", 7);
        faultOf(0, "ar0;ax", 4);
        faultOf(0, Check.EIGHT.substring(0, 30) + "x", 30);
        faultOf(1, "xx", 0);
        faultOf(1, "oxsx", 1);
        faultOf(1, Check.ALL_O.substring(1) + "x", 23);
        MayPole p = Check.told("ar0x", "ox");
        p.type(0, ';');
        p.type(1, 'o');
        Check.due("what comes later does not mend it", p.fault(0), 3);
        Check.due("what comes later does not mend it", p.fault(1), 1);
        p.undo(0);
        p.undo(0);
        p.undo(1);
        p.undo(1);
        Check.due("undone, it is well", p.fault(0), NONE);
        Check.due("undone, it is well", p.fault(1), NONE);
        Check.due("the one of DANCERS is there", p.count(0), 1);
        Check.due("the one of STEPS is there", p.count(1), 1);
    }

    private static void notEnded() {
        Check.sentence("(an empty one is well; of one that is not ended, its end)");
        for (int n = 0; n <= 31; n++) {
            MayPole p = Check.told(Check.EIGHT.substring(0, n), "");
            boolean well = n == 0 || n % 4 == 3;
            Check.due("fault of " + n + " bytes", p.fault(0), well ? NONE : n);
            Check.due("dancers of " + n + " bytes", p.count(0), well ? (n + 1) / 4 : 0);
        }
        for (int n = 0; n <= 24; n++) faultOf(1, Check.ALL_O.substring(0, n), NONE);
    }

    private static void letterOfAnother() {
        Check.sentence("here also of a letter where another one of DANCERS is");
        for (char letter = 'a'; letter <= 'l'; letter++) faultOf(0, letter + "r0;" + letter + "l1", 4);
        for (int d = 0; d < 7; d++) faultOf(0, Check.EIGHT.substring(0, 28) + Check.EIGHT.charAt(4 * d), 28);
        faultOf(0, "ar0;br0;ar0;br0", 8);
        faultOf(0, "ar0;a", 4);
        faultOf(0, "ll0;al0", NONE);
        faultOf(0, "al0;ll0", NONE);
        faultOf(0, "ll0;ll0", 4);
        MayPole p = Check.told("ar0;ar0", "");
        Check.due("nobody is there", p.count(0), 0);
        for (int i = 0; i < 4; i++) p.undo(0);
        Check.due("the first is there", p.count(0), 1);
        p.wipe(0);
        Check.tell(p, 0, "ar0");
        Check.due("a wiped one is at no place", p.fault(0), NONE);
    }

    private static void ninthOfDancers() {
        Check.sentence("of the first byte of a ninth of DANCERS");
        // Eight of them are 31 bytes, so the ; ahead of a ninth is refused and its first byte never comes.
        MayPole p = Check.told(Check.EIGHT, "");
        Check.due("; behind the eighth", p.type(0, ';'), FULL);
        Check.due("the first byte of a ninth", p.type(0, 'i'), FULL);
        Check.due("the eight stay", p.count(0), 8);
        Check.due("well", p.fault(0), NONE);
    }

    /** All that is asked of both must be alike, but for the FAULT and the bytes. */
    private static void alike(MayPole faulty, MayPole empty) {
        for (int what : new int[] {0, 1, 3, 4, 5, 6, 7}) Check.due("count", faulty.count(what), empty.count(what));
        for (int beat = 0; beat < 24; beat++) {
            Check.due("steps", faulty.steps(beat), empty.steps(beat));
            Check.due("high", faulty.high(beat, 0), empty.high(beat, 0));
            Check.due("met", faulty.high(beat, 1), empty.high(beat, 1));
            Check.due("step", faulty.step(beat, 0), empty.step(beat, 0));
            Check.due("step", faulty.step(beat, 1), empty.step(beat, 1));
        }
        for (int d = 0; d < 8; d++) {
            Check.due("dancer", faulty.dancer(d, 0), empty.dancer(d, 0));
            Check.due("at", faulty.at(23, d, 0), empty.at(23, d, 0));
            Check.due("begin", faulty.begin(d, 1), empty.begin(d, 1));
            Check.due("dress", faulty.dress(d, 1), empty.dress(d, 1));
            Check.due("ways", faulty.ways(d), empty.ways(d));
        }
        Check.due("sum", faulty.sum(0), empty.sum(0));
        Check.due("bare", faulty.bare(), empty.bare());
        Check.due("top", faulty.top(), empty.top());
        Check.due("lacks", faulty.lacks(), empty.lacks());
        Check.due("spare", faulty.spare(NONE), empty.spare(NONE));
        Check.due("lengths", faulty.lengths(), empty.lengths());
        Check.due("chance", faulty.chance(3, 23, 1), empty.chance(3, 23, 1));
        Check.due("dances", faulty.dances(7, 24, 0), empty.dances(7, 24, 0));
    }

    private static void dancersWithFault() {
        Check.sentence("With a FAULT a text is as if it was empty");
        for (String text : new String[] {Check.EIGHT.substring(0, 30), "ar0;bl0;", "ar0;bl0;ar0", "ar0;bl0;x", "x"}) {
            Tale tale = Tale.of(text, "oouu").event(2, 1, 0).event(1, 0, 1).saw(23, 0);
            MayPole p = tale.make();
            alike(p, tale.by("").make());
            Check.due("dancer(0, 0)", p.dancer(0, 0), BAD);
            Check.due("at(0, 0, 0)", p.at(0, 0, 0), BAD);
            Check.due("ways(0)", p.ways(0), BAD);
            Check.due("bytes of both texts", p.count(2), text.length() + 4);
        }
    }

    private static void stepsWithFault() {
        for (String text : new String[] {"x", "ooox", Check.ALL_O.substring(1) + "x"}) {
            Tale tale = Tale.of(Check.EIGHT, text).event(2, 1, 0).event(1, 0, 1).saw(23, 0);
            MayPole p = tale.make();
            alike(p, tale.danced("").make());
            Check.due("bytes of STEPS (0 with a FAULT)", p.count(1), 0);
            Check.due("bytes of both texts", p.count(2), text.length() + 31);
        }
    }

    private static void wipe() {
        Check.sentence("A text is empty: how many bytes it had. BAD");
        for (int text = 0; text <= 1; text++) {
            MayPole p = Check.told("ar0;bl0", "ou");
            int had = text == 0 ? 7 : 2;
            Check.due("wipe", p.wipe(text), had);
            Check.due("the other stays", p.count(2), 9 - had);
            Check.due("wipe of an empty one", p.wipe(text), 0);
            Check.due("an empty one is well", p.fault(text), NONE);
            Check.due("nothing is on", p.count(4), 0);
            p.type(text, 'x');
            Check.due("with a FAULT", p.wipe(text), 1);
            Check.due("the FAULT is gone", p.fault(text), NONE);
        }
    }

    private static void undo() {
        Check.sentence("The last byte of a text is undone: how many are left. BAD; NOT: it is empty");
        MayPole p = Check.told(Check.EIGHT, Check.ALL_O);
        for (int left = 30; left >= 0; left--) Check.due("undo(0)", p.undo(0), left);
        Check.due("undo(0) of an empty one", p.undo(0), NOT);
        Check.due("again", p.undo(0), NOT);
        Check.due("the other text stays", p.count(1), 24);
        for (int left = 23; left >= 0; left--) Check.due("undo(1)", p.undo(1), left);
        Check.due("undo(1) of an empty one", p.undo(1), NOT);
        Check.due("type behind NOT", p.type(1, 't'), 1);
        Check.due("it is the first", p.steps(0), 3);
        Check.due("the last byte", Check.told("", "ot").undo(1), 1);
        MayPole last = Check.told("", "ot");
        last.undo(1);
        Check.due("the last one went", last.steps(1), STAND);
        Check.due("the first one stays", last.steps(0), 0);
    }

    private static void dancer() {
        Check.sentence("The PLACE at first (what = 0), the way (1: 0 r, 1 l), the COLOUR (2) of one of DANCERS as told. BAD");
        MayPole p = Check.told("ar0;ll9", "o");
        int[][] due = {{0, 0, 0}, {11, 1, 9}};
        for (int d = 0; d < 2; d++) {
            for (int what = 0; what <= 2; what++) Check.due("dancer", p.dancer(d, what), due[d][what]);
            for (int what : Check.beside(0, 2)) Check.due("dancer what " + what, p.dancer(d, what), BAD);
        }
        for (int d : Check.beside(0, 1)) Check.due("dancer " + d, p.dancer(d, 0), BAD);
        p.undo(0);
        Check.due("as told: none with a FAULT", p.dancer(0, 0), BAD);
    }

    private static void steps() {
        Check.sentence("What is danced in a BEAT: 0 o, 1 u, 2 s, 3 t; s in later ones. BAD");
        MayPole p = Check.told("", "oust".repeat(6));
        for (int beat = 0; beat < 24; beat++) Check.due("steps(" + beat + ")", p.steps(beat), beat % 4);
        for (int beat : Check.beside(0, 23)) Check.due("steps(" + beat + ")", p.steps(beat), BAD);
        p.undo(1);
        Check.due("a later one", p.steps(23), STAND);
        Check.due("the last one told", p.steps(22), STAND);
        Check.due("the one ahead of it", p.steps(21), 1);
        Check.due("with no DANCERS too", Check.told("", "t").steps(0), 3);
    }
}
