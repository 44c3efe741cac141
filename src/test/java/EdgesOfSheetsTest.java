/** Each sentence that names an edge of the SHEETS and of count(): Terms, promises 33 to 39. */
public final class EdgesOfSheetsTest {
    private static final int BAD = Check.BAD, NULL = Check.NULL, INDEX = Check.INDEX, CAST = Check.CAST,
        STORE = Check.STORE, SIZE = Check.SIZE, LEAST = Check.LEAST, MOST = Check.MOST;
    private static final int[] LOWEST = {-128, -32768, LEAST}, HIGHEST = {127, 32767, MOST};

    public static void main(String[] args) {
        lostAtFirst();
        sheetOf0To60();
        sheetRefuses();
        sheetIsNew();
        lose();
        layLowestBits();
        layEdges();
        layRefuses();
        get();
        copyWholeAndNone();
        copyOntoItself();
        copyIndex();
        copyRefuses();
        write();
        writeForms();
        writeRefuses();
        countEach();
        countOfLettingGo();
        countOfFindings();
        Check.end("EdgesOfSheetsTest");
    }

    private static void items(MayPole p, int s, int form, int... due) {
        for (int i = 0; i < due.length; i++) Check.due("item " + i + " of " + s, p.get(s, form, i), due[i]);
    }

    private static void lostAtFirst() {
        Check.sentence("SHEETS 0 .. 3 are LOST (at first)");
        for (int s = 0; s <= 3; s++) {
            MayPole p = new MayPole();
            Check.due("lose", p.lose(s), NULL);
            Check.due("read", p.read(s), NULL);
            Check.due("write", p.write(s), NULL);
            for (int form = 0; form <= 2; form++) {
                Check.due("lay", p.lay(s, form, 0, 0), NULL);
                Check.due("get", p.get(s, form, 0), LEAST);
            }
            Check.due("the latest", p.count(8), 1);
            Check.due("copy", p.copy(s, 0, s, 0, 0), NULL);
        }
        MayPole p = new MayPole();
        p.sheet(1, 0, 2);
        for (int s : new int[] {0, 2, 3}) Check.due("the others are LOST still", p.lose(s), NULL);
    }

    private static void sheetOf0To60() {
        Check.sentence("a row of a FORM: 0 bytes, 1 shorts, 2 ints, of 0 to 60 items (0 at first)");
        for (int form = 0; form <= 2; form++) {
            for (int n = 0; n <= 60; n++) {
                MayPole p = new MayPole();
                Check.due("sheet of " + n, p.sheet(n % 4, form, n), n);
                for (int i = 0; i < n; i++) Check.due("0 at first", p.get(n % 4, form, i), 0);
                Check.due("no FINDING", p.count(8), 0);
                Check.due("no such item", p.get(n % 4, form, n), LEAST);
                Check.due("INDEX", p.count(8), 2);
                Check.due("it had " + n, p.lose(n % 4), n);
            }
        }
    }

    private static void sheetRefuses() {
        Check.sentence("BAD: SHEET, FORM, above 60; SIZE");
        MayPole p = new MayPole();
        for (int s : Check.beside(0, 3)) Check.due("sheet " + s, p.sheet(s, 0, 5), BAD);
        for (int form : Check.beside(0, 2)) Check.due("form " + form, p.sheet(0, form, 5), BAD);
        for (int n : new int[] {61, 62, 256, 65536, MOST}) Check.due("n " + n, p.sheet(0, 0, n), BAD);
        for (int s : Check.beside(0, 3)) Check.due("BAD ahead of SIZE", p.sheet(s, 0, -1), BAD);
        for (int form : Check.beside(0, 2)) Check.due("BAD ahead of SIZE", p.sheet(0, form, -1), BAD);
        Check.due("BAD is no FINDING", p.count(8), 0);
        Check.due("it is LOST still", p.lose(0), NULL);
        for (int n : new int[] {-1, -2, -256, LEAST}) {
            Check.due("n " + n, p.sheet(0, 0, n), SIZE);
            Check.due("SIZE", p.count(8), 5);
        }
        Check.due("it is LOST still", p.lose(0), NULL);
        Check.layAll(p, 0, 1, 7, 8);
        Check.due("SIZE", p.sheet(0, 2, -1), SIZE);
        Check.due("BAD", p.sheet(0, 2, 61), BAD);
        items(p, 0, 1, 7, 8);
        Check.due("what it was stays", p.lose(0), 2);
    }

    private static void sheetIsNew() {
        Check.sentence("A SHEET is a new row of a FORM with n items: n");
        MayPole p = new MayPole();
        for (int s = 0; s <= 3; s++) Check.layAll(p, s, 2, 5, 6, 7);
        Check.due("shorter", p.sheet(1, 0, 2), 2);
        items(p, 1, 0, 0, 0);
        Check.due("longer", p.sheet(1, 1, 5), 5);
        items(p, 1, 1, 0, 0, 0, 0, 0);
        Check.due("of none", p.sheet(2, 2, 0), 0);
        Check.due("it is not LOST", p.lose(2), 0);
        Check.due("then it is", p.lose(2), NULL);
        items(p, 0, 2, 5, 6, 7);
        items(p, 3, 2, 5, 6, 7);
    }

    private static void lose() {
        Check.sentence("It is LOST: how many items it had. BAD; NULL");
        MayPole p = new MayPole();
        for (int s : Check.beside(0, 3)) Check.due("lose " + s, p.lose(s), BAD);
        Check.due("BAD is no FINDING", p.count(8), 0);
        for (int s = 0; s <= 3; s++) p.sheet(s, 0, s * 20);
        for (int s = 3; s >= 0; s--) Check.due("lose " + s, p.lose(s), s * 20);
        for (int s = 0; s <= 3; s++) Check.due("LOST " + s, p.lose(s), NULL);
        Check.due("a new row behind it", p.sheet(3, 1, 4), 4);
        items(p, 3, 1, 0, 0, 0, 0);
    }

    private static void layLowestBits() {
        Check.sentence("Item i, treated as of a FORM, becomes v (the lowest bits that it has): 1");
        int[] vs = {0, 1, -1, 127, 128, 255, 256, -128, -129, 32767, 32768, 65535, 65536, -32768, -32769, 8388608, MOST, LEAST};
        for (int v : vs) {
            int[] due = {(byte) v, (short) v, v};
            for (int form = 0; form <= 2; form++) {
                MayPole p = new MayPole();
                p.sheet(0, form, 3);
                Check.due("lay " + v, p.lay(0, form, 1, v), 1);
                items(p, 0, form, 0, due[form], 0);
            }
        }
        for (int form = 0; form <= 2; form++) {
            MayPole p = new MayPole();
            p.sheet(0, form, 1);
            p.lay(0, form, 0, HIGHEST[form] + 1);
            Check.due("behind the highest comes the lowest", p.get(0, form, 0), LOWEST[form]);
            p.lay(0, form, 0, LOWEST[form] - 1);
            Check.due("ahead of the lowest comes the highest", p.get(0, form, 0), HIGHEST[form]);
        }
    }

    private static void layEdges() {
        Check.sentence("Item i; INDEX: there is no such item");
        for (int form = 0; form <= 2; form++) {
            MayPole p = new MayPole();
            p.sheet(3, form, 60);
            Check.due("the first", p.lay(3, form, 0, 1), 1);
            Check.due("the last", p.lay(3, form, 59, 2), 1);
            Check.due("one more", p.lay(3, form, 60, 3), INDEX);
            Check.due("one less", p.lay(3, form, -1, 3), INDEX);
            Check.due("the first is there", p.get(3, form, 0), 1);
            Check.due("the last is there", p.get(3, form, 59), 2);
            p.sheet(3, form, 0);
            Check.due("of none", p.lay(3, form, 0, 1), INDEX);
            p.sheet(3, form, 60);
            Check.due("nothing came there", p.get(3, form, 0), 0);
        }
    }

    private static void layRefuses() {
        Check.sentence("BAD; NULL; CAST; INDEX");
        MayPole p = new MayPole();
        for (int s : Check.beside(0, 3)) Check.due("lay on " + s, p.lay(s, 0, 0, 1), BAD);
        for (int form : Check.beside(0, 2)) Check.due("BAD ahead of NULL", p.lay(0, form, 0, 1), BAD);
        Check.due("BAD is no FINDING", p.count(8), 0);
        Check.due("NULL ahead of INDEX", p.lay(0, 0, -1, 1), NULL);
        Check.due("NULL", p.count(8), 1);
        for (int form = 0; form <= 2; form++) {
            Check.layAll(p, 0, form, 4, 5);
            for (int other = 0; other <= 2; other++) {
                if (other == form) continue;
                Check.due("CAST", p.lay(0, other, 0, 1), CAST);
                Check.due("CAST ahead of INDEX", p.lay(0, other, 2, 1), CAST);
                Check.due("CAST", p.count(8), 3);
            }
            for (int wrong : Check.beside(0, 2)) Check.due("BAD ahead of CAST", p.lay(0, wrong, 0, 1), BAD);
            Check.due("BAD is no FINDING", p.count(8), 3);
            for (int i : Check.beside(0, 1)) Check.due("INDEX " + i, p.lay(0, form, i, 1), INDEX);
            Check.due("INDEX", p.count(8), 2);
            items(p, 0, form, 4, 5);
        }
    }

    private static void got(MayPole p, int s, int form, int i, int finding) {
        Check.due("get(" + s + ", " + form + ", " + i + ")", p.get(s, form, i), LEAST);
        Check.due("count(8)", p.count(8), finding);
    }

    private static void get() {
        Check.sentence("Item i of it. BAD: the least int; so are NULL, CAST, INDEX (count() 8 tells)");
        MayPole p = new MayPole();
        for (int s : Check.beside(0, 3)) got(p, s, 0, 0, 0);
        for (int form : Check.beside(0, 2)) got(p, 0, form, 0, 0);
        got(p, 0, 0, -1, 1);
        Check.layAll(p, 0, 1, 8, 9);
        got(p, 0, 0, 0, 3);
        got(p, 0, 1, 2, 2);
        got(p, 0, 2, 2, 3);
        got(p, 0, 1, -1, 2);
        got(p, 0, 1, MOST, 2);
        got(p, 0, 1, LEAST, 2);
        got(p, 1, 1, 0, 1);
        got(p, 4, 1, 0, 1);
        items(p, 0, 1, 8, 9);
        Check.due("the latest stays", p.count(8), 1);
        Check.layAll(p, 2, 2, LEAST);
        Check.due("an item may be the least int", p.get(2, 2, 0), LEAST);
        Check.due("that is no FINDING", p.count(8), 1);
    }

    private static MayPole rows() {
        MayPole p = new MayPole();
        Check.layAll(p, 0, 1, 1, 2, 3, 4, 5);
        Check.layAll(p, 1, 1, 6, 7, 8);
        Check.layAll(p, 2, 2, 9, 10, 11);
        return p;
    }

    private static void copyWholeAndNone() {
        Check.sentence("n items of SHEET s, from i on, come to SHEET t, from j on: 1");
        MayPole p = rows();
        Check.due("the last three", p.copy(0, 2, 1, 0, 3), 1);
        items(p, 1, 1, 3, 4, 5);
        Check.due("to the last", p.copy(0, 0, 1, 2, 1), 1);
        items(p, 1, 1, 3, 4, 1);
        items(p, 0, 1, 1, 2, 3, 4, 5);
        Check.due("none", p.copy(0, 0, 1, 0, 0), 1);
        Check.due("none from behind the last", p.copy(0, 5, 1, 3, 0), 1);
        items(p, 1, 1, 3, 4, 1);
        MayPole whole = new MayPole();
        for (int form = 0; form <= 2; form++) {
            whole.sheet(0, form, 60);
            whole.sheet(3, form, 60);
            whole.lay(0, form, 0, -1);
            whole.lay(0, form, 59, LOWEST[form]);
            Check.due("all 60", whole.copy(0, 0, 3, 0, 60), 1);
            Check.due("the first", whole.get(3, form, 0), -1);
            Check.due("the last", whole.get(3, form, 59), LOWEST[form]);
        }
        whole.sheet(1, 2, 0);
        Check.due("none of none", whole.copy(1, 0, 1, 0, 0), 1);
        Check.due("no FINDING", whole.count(8), 0);
    }

    private static void copyOntoItself() {
        Check.sentence("to SHEET t (perhaps s, as they were)");
        MayPole up = rows(), down = rows(), same = rows(), far = rows();
        Check.due("up by one", up.copy(0, 0, 0, 1, 4), 1);
        items(up, 0, 1, 1, 1, 2, 3, 4);
        Check.due("down by one", down.copy(0, 1, 0, 0, 4), 1);
        items(down, 0, 1, 2, 3, 4, 5, 5);
        Check.due("nowhere", same.copy(0, 0, 0, 0, 5), 1);
        items(same, 0, 1, 1, 2, 3, 4, 5);
        Check.due("up by two", far.copy(0, 0, 0, 2, 3), 1);
        items(far, 0, 1, 1, 2, 1, 2, 3);
    }

    private static void copyIndex() {
        Check.sentence("INDEX: below 0, not so many");
        int[][] refused = {{-1, 0, 1}, {0, -1, 1}, {0, 0, -1}, {3, 0, 3}, {5, 0, 1}, {0, 1, 3}, {0, 3, 1}, {0, 0, 4},
            {6, 0, 0}, {0, 4, 0}, {-1, 0, 0}, {0, -1, 0}, {LEAST, 0, 1}, {0, LEAST, 1}, {0, 0, LEAST}, {MOST, 0, 1},
            {0, MOST, 1}, {0, 0, MOST}, {1, 1, MOST}, {MOST, MOST, MOST}, {LEAST, LEAST, LEAST}, {-1, -1, 2}, {1, 1, -1}};
        for (int[] c : refused) {
            MayPole p = rows();
            Check.due("copy of " + c[2] + " from " + c[0] + " to " + c[1], p.copy(0, c[0], 1, c[1], c[2]), INDEX);
            Check.due("INDEX", p.count(8), 2);
            items(p, 0, 1, 1, 2, 3, 4, 5);
            items(p, 1, 1, 6, 7, 8);
        }
        MayPole p = rows();
        Check.due("of so many in s, not in t", p.copy(0, 0, 1, 0, 4), INDEX);
        Check.due("of so many in t, not in s", p.copy(1, 0, 0, 0, 4), INDEX);
        Check.due("onto itself", p.copy(0, 0, 0, 1, 5), INDEX);
    }

    private static void copyRefuses() {
        Check.sentence("BAD: the SHEETS; NULL: s, t; STORE; INDEX");
        MayPole p = rows();
        for (int s : Check.beside(0, 3)) {
            Check.due("from " + s, p.copy(s, 0, 0, 0, 1), BAD);
            Check.due("to " + s, p.copy(0, 0, s, 0, 1), BAD);
            Check.due("BAD ahead of NULL", p.copy(s, 0, 3, 0, 1), BAD);
            Check.due("BAD ahead of NULL", p.copy(3, 0, s, 0, 1), BAD);
        }
        Check.due("BAD is no FINDING", p.count(8), 0);
        Check.due("from a LOST one", p.copy(3, -1, 0, 0, 1), NULL);
        Check.due("to a LOST one", p.copy(0, -1, 3, 0, 1), NULL);
        Check.due("from a LOST one to itself", p.copy(3, 0, 3, 0, 0), NULL);
        Check.due("NULL", p.count(8), 1);
        Check.due("STORE", p.copy(0, 0, 2, 0, 1), STORE);
        Check.due("STORE", p.copy(2, 0, 0, 0, 1), STORE);
        Check.due("STORE, though none is to come", p.copy(0, 0, 2, 0, 0), STORE);
        Check.due("STORE ahead of INDEX", p.copy(0, -1, 2, 9, -1), STORE);
        Check.due("STORE", p.count(8), 4);
        p.sheet(3, 0, 5);
        Check.due("shorts to bytes", p.copy(0, 0, 3, 0, 1), STORE);
        Check.due("bytes to ints", p.copy(3, 0, 2, 0, 1), STORE);
        items(p, 0, 1, 1, 2, 3, 4, 5);
        items(p, 2, 2, 9, 10, 11);
        items(p, 3, 0, 0, 0, 0, 0, 0);
    }

    /** Four are on by this dance, and 3, 8, 8, 3 are the COLOURS of who is OVER. */
    private static MayPole fourOn() {
        return Check.told("ar3;gl8", "oooooooouooooouooooooooo");
    }

    private static void write() {
        Check.sentence("COLOURS of who is OVER, from the top, come to a SHEET from item 0 on, as many as there are items, and on: how many");
        int[] colours = {3, 8, 8, 3};
        for (int n = 0; n <= 6; n++) {
            MayPole p = fourOn();
            p.sheet(2, 2, n);
            for (int i = 0; i < n; i++) p.lay(2, 2, i, 77);
            Check.due("write to " + n, p.write(2), Math.min(n, 4));
            for (int i = 0; i < n; i++) Check.due("item " + i, p.get(2, 2, i), i < 4 ? colours[i] : 77);
        }
        MayPole most = Check.told(Check.EIGHT, Check.ALL_O);
        most.ribbons(30);
        most.sheet(0, 1, 60);
        Check.due("64 on, 60 items", most.write(0), 60);
        Check.due("the last", most.get(0, 1, 59), most.dancer(most.weave(59, 0), 2));
        MayPole none = Check.told("ar3;bl8", "otu");
        Check.layAll(none, 0, 0, 5, 6);
        Check.due("none is on", none.write(0), 0);
        items(none, 0, 0, 5, 6);
    }

    private static void writeForms() {
        Check.sentence("come to a SHEET");
        for (int form = 0; form <= 2; form++) {
            MayPole p = Check.told("ar9;gl0", "oooooooouooooouooooooooo");
            p.sheet(form, form, 5);
            Check.due("write", p.write(form), 4);
            items(p, form, form, 9, 0, 0, 9, 0);
        }
    }

    private static void writeRefuses() {
        Check.sentence("BAD; NULL");
        MayPole p = fourOn();
        for (int s : Check.beside(0, 3)) Check.due("write(" + s + ")", p.write(s), BAD);
        Check.due("BAD is no FINDING", p.count(8), 0);
        for (int s = 0; s <= 3; s++) Check.due("write(" + s + ")", p.write(s), NULL);
        Check.due("NULL", p.count(8), 1);
    }

    private static void countEach() {
        Check.sentence("0 DANCERS, 1 bytes of STEPS, 2 bytes of both texts, 3 EVENTS, 4 HIGH, 5 how long RIBBONS are, 7 SEEN. BAD");
        Tale tale = Tale.of(Check.EIGHT, Check.ALL_O).ribboned(30);
        for (int i = 0; i < 8; i++) tale = tale.event(0, 0, 7).saw(0, 0);
        MayPole p = tale.make();
        int[] due = {8, 24, 55, 8, p.high(23, 0), 30, 0, 8, 0};
        for (int what = 0; what <= 8; what++) Check.due("count(" + what + ")", p.count(what), due[what]);
        for (int what : Check.beside(0, 8)) Check.due("count(" + what + ")", p.count(what), BAD);
        p.type(1, 'x');
        Check.due("a byte that was refused", p.count(2), 55);
        p.undo(1);
        p.type(1, 'x');
        Check.due("bytes of STEPS (0 with a FAULT)", p.count(1), 0);
        Check.due("bytes of both texts", p.count(2), 55);
        p.undo(0);
        Check.due("DANCERS with a FAULT", p.count(0), 0);
        Check.due("bytes of both texts", p.count(2), 54);
    }

    private static void countOfLettingGo() {
        Check.sentence("6 how many LET GO by BEAT 23");
        MayPole p = Check.told(Check.EIGHT, "o");
        for (int d = 0; d < 8; d++) {
            p.event(2, d == 7 ? 23 : d, d);
            Check.due("count(6)", p.count(6), d + 1);
        }
        for (int left = 7; left >= 0; left--) {
            p.back();
            Check.due("count(6)", p.count(6), left);
        }
        MayPole twice = Tale.of("ar0;bl0", "o").event(2, 0, 1).event(2, 1, 1).event(2, 0, 2).make();
        Check.due("one of them, twice, and no such one", twice.count(6), 1);
        Check.due("stumbling is not letting go", Tale.of("ar0", "o").event(0, 0, 0).event(1, 0, 0).make().count(6), 0);
        Check.due("with a FAULT there is nobody", Tale.of("ar0;", "o").event(2, 0, 0).make().count(6), 0);
    }

    private static void countOfFindings() {
        Check.sentence("8 the number of the latest FINDING (0 before any); answers -10 less the number");
        MayPole p = rows();
        Check.due("before any", p.count(8), 0);
        int[] answers = {p.lose(3), p.lay(0, 1, 5, 0), p.lay(0, 0, 0, 0), p.copy(0, 0, 2, 0, 1), p.sheet(0, 0, -1)};
        for (int number = 1; number <= 5; number++) Check.due("FINDING " + number, answers[number - 1], -10 - number);
        Check.due("the latest", p.count(8), 5);
        p.lose(3);
        Check.due("the latest", p.count(8), 1);
        p.lose(2);
        p.undo(0);
        p.back();
        p.lose(4);
        p.type(2, 0);
        p.digest();
        Check.due("nothing else changes it", p.count(8), 1);
    }
}
