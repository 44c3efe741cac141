/** Promises 33 to 40: sheets, counts, the digest. */
public final class SheetsTest {
    private static final long LEAST = Integer.MIN_VALUE;

    public static void main(String[] args) {
        sheet();
        lose();
        lay();
        layRefuses();
        get();
        copy();
        copyRefuses();
        write();
        counts();
        digest();
        Check.end("SheetsTest");
    }

    private static void sheet() {
        MayPole p = new MayPole();
        Check.due("sheet of none", p.sheet(0, 0, 0), 0);
        Check.due("sheet of 60", p.sheet(3, 2, 60), 60);
        p.lay(3, 2, 59, 7);
        Check.due("a new row", p.sheet(3, 2, 60), 60);
        Check.due("0 at first", p.get(3, 2, 59), 0);
        p.lay(3, 2, 59, 7);
        p.sheet(3, 1, 2);
        p.sheet(3, 1, 60);
        Check.due("0 at first, whatever was", p.get(3, 1, 59), 0);
        int[][] bad = {{-1, 0, 1}, {4, 0, 1}, {0, -1, 1}, {0, 3, 1}, {0, 0, 61}, {4, 0, -1}, {0, 3, -1}};
        for (int[] b : bad) Check.due("bad sheet", p.sheet(b[0], b[1], b[2]), Check.BAD);
        Check.due("no finding", p.count(8), 0);
        Check.due("size", p.sheet(3, 0, -1), Check.SIZE);
        Check.due("finding", p.count(8), 5);
        Check.due("it stays", p.lose(3), 60);
    }

    private static void lose() {
        MayPole p = new MayPole();
        Check.due("lost", p.lose(2), Check.NULL);
        p.sheet(2, 1, 5);
        Check.due("lose", p.lose(2), 5);
        Check.due("lost again", p.lose(2), Check.NULL);
        p.sheet(2, 1, 0);
        Check.due("lose none", p.lose(2), 0);
        Check.due("lose(-1)", p.lose(-1), Check.BAD);
        Check.due("lose(4)", p.lose(4), Check.BAD);
    }

    private static void lay() {
        MayPole p = new MayPole();
        int[][] cases = {{0, 127, 127}, {0, 128, -128}, {0, 256, 0}, {0, -1, -1}, {0, -129, 127},
            {1, 32767, 32767}, {1, 32768, -32768}, {1, 65536, 0}, {1, -1, -1},
            {2, Integer.MAX_VALUE, Integer.MAX_VALUE}, {2, Integer.MIN_VALUE, Integer.MIN_VALUE}, {2, 70000, 70000}};
        for (int[] c : cases) {
            p.sheet(1, c[0], 3);
            Check.due("lay", p.lay(1, c[0], 2, c[1]), 1);
            Check.due("get", p.get(1, c[0], 2), c[2]);
            Check.due("the others stay", p.get(1, c[0], 1), 0);
        }
        Check.due("no finding", p.count(8), 0);
    }

    private static void layRefuses() {
        MayPole p = new MayPole();
        Check.due("lay on a lost one", p.lay(0, 0, 9, 1), Check.NULL);
        Check.due("finding", p.count(8), 1);
        p.sheet(0, 1, 3);
        Check.due("CAST ahead of INDEX", p.lay(0, 0, 9, 1), Check.CAST);
        Check.due("finding", p.count(8), 3);
        Check.due("INDEX", p.lay(0, 1, 3, 1), Check.INDEX);
        Check.due("finding", p.count(8), 2);
        Check.due("INDEX", p.lay(0, 1, -1, 1), Check.INDEX);
        Check.due("INDEX", p.lay(0, 1, Integer.MAX_VALUE, 1), Check.INDEX);
        Check.due("INDEX", p.lay(0, 1, Integer.MIN_VALUE, 1), Check.INDEX);
        Check.due("a sheet", p.lay(4, 1, 0, 1), Check.BAD);
        Check.due("a sheet", p.lay(-1, 1, 0, 1), Check.BAD);
        Check.due("a form", p.lay(0, 3, 0, 1), Check.BAD);
        Check.due("BAD ahead of NULL", p.lay(1, -1, 0, 1), Check.BAD);
        for (int i = 0; i < 3; i++) Check.due("nothing is laid", p.get(0, 1, i), 0);
    }

    private static void get() {
        MayPole p = new MayPole();
        Check.due("BAD", p.get(4, 0, 0), LEAST);
        Check.due("BAD", p.get(0, 3, 0), LEAST);
        Check.due("BAD is no finding", p.count(8), 0);
        Check.due("NULL", p.get(0, 0, 0), LEAST);
        Check.due("NULL", p.count(8), 1);
        p.sheet(0, 2, 1);
        Check.due("CAST", p.get(0, 1, 5), LEAST);
        Check.due("CAST", p.count(8), 3);
        Check.due("INDEX", p.get(0, 2, 1), LEAST);
        Check.due("INDEX", p.count(8), 2);
        Check.due("INDEX", p.get(0, 2, -1), LEAST);
        Check.due("well", p.get(0, 2, 0), 0);
        Check.due("the latest stays", p.count(8), 2);
    }

    private static MayPole rows() {
        MayPole p = new MayPole();
        p.sheet(0, 1, 5);
        p.sheet(1, 1, 3);
        p.sheet(2, 2, 5);
        for (int i = 0; i < 5; i++) p.lay(0, 1, i, i + 1);
        return p;
    }

    private static void items(MayPole p, int s, int... due) {
        for (int i = 0; i < due.length; i++) Check.due("item " + i, p.get(s, 1, i), due[i]);
    }

    private static void copy() {
        MayPole p = rows();
        Check.due("copy", p.copy(0, 2, 1, 0, 3), 1);
        items(p, 1, 3, 4, 5);
        Check.due("up", p.copy(0, 0, 0, 1, 4), 1);
        items(p, 0, 1, 1, 2, 3, 4);
        Check.due("down", p.copy(0, 2, 0, 0, 3), 1);
        items(p, 0, 2, 3, 4, 3, 4);
        Check.due("none", p.copy(0, 5, 1, 3, 0), 1);
        items(p, 1, 3, 4, 5);
        Check.due("no finding", p.count(8), 0);
    }

    private static void copyRefuses() {
        MayPole p = rows();
        int[][] index = {{-1, 0, 1}, {0, -1, 1}, {0, 0, -1}, {3, 0, 3}, {0, 1, 3}, {6, 0, 0}, {0, 4, 0},
            {Integer.MAX_VALUE, 0, 1}, {0, Integer.MAX_VALUE, 1}, {1, 1, Integer.MAX_VALUE}};
        for (int[] c : index) Check.due("INDEX", p.copy(0, c[0], 1, c[1], c[2]), Check.INDEX);
        Check.due("finding", p.count(8), 2);
        Check.due("STORE ahead of INDEX", p.copy(0, -1, 2, 0, 1), Check.STORE);
        Check.due("finding", p.count(8), 4);
        Check.due("NULL", p.copy(0, 0, 3, 0, 1), Check.NULL);
        Check.due("NULL", p.copy(3, 0, 0, 0, 1), Check.NULL);
        Check.due("BAD ahead of NULL", p.copy(3, 0, 4, 0, 1), Check.BAD);
        Check.due("BAD", p.copy(-1, 0, 0, 0, 1), Check.BAD);
        items(p, 0, 1, 2, 3, 4, 5);
        items(p, 1, 0, 0, 0);
    }

    private static void write() {
        MayPole p = Check.told("ar1;gl2", "oooooooouooooouooooooooo");
        p.sheet(0, 1, 5);
        for (int i = 0; i < 5; i++) p.lay(0, 1, i, 9);
        Check.due("as many as are on", p.write(0), 4);
        items(p, 0, 1, 2, 2, 1, 9);
        p.sheet(0, 1, 2);
        Check.due("as many as there are items", p.write(0), 2);
        items(p, 0, 1, 2);
        p.sheet(0, 0, 0);
        Check.due("no items", p.write(0), 0);
        p.sheet(0, 2, 4);
        p.wipe(1);
        Check.due("none is on", p.write(0), 0);
        Check.due("write(4)", p.write(4), Check.BAD);
        Check.due("write(-1)", p.write(-1), Check.BAD);
        Check.due("write on a lost one", p.write(1), Check.NULL);
        Check.due("finding", p.count(8), 1);
    }

    private static void counts() {
        MayPole p = Check.told("ar1;bl2", "otus");
        p.event(2, 1, 1);
        p.seen(0, 0);
        p.seen(0, 0);
        p.ribbons(9);
        long[] due = {2, 4, 11, 1, 1, 9, 1, 2, 0};
        for (int what = 0; what < due.length; what++) Check.due("count(" + what + ")", p.count(what), due[what]);
        Check.due("count(-1)", p.count(-1), Check.BAD);
        Check.due("count(9)", p.count(9), Check.BAD);
    }

    private static long digestByHand(MayPole p) {
        long h = 17;
        for (int i = 0; i < 8; i++) h = 31 * h + p.count(i);
        for (int i = 0; i < 2; i++) h = 31 * h + p.fault(i);
        for (int i = 0; i < 24; i++) h = 31 * (31 * (31 * h + p.steps(i)) + p.high(i, 0)) + p.high(i, 1);
        for (int i = 0; i < 72; i++) h = 31 * h + p.weave(i / 3, i % 3);
        for (int i = 0; i < 10; i++) h = 31 * h + p.shows(i);
        for (int d = 0; d < p.count(0); d++) {
            for (int i = 0; i < 3; i++) h = 31 * h + p.dancer(d, i);
            for (int i = 0; i < 12; i++) h = 31 * h + p.at(new int[] {0, 6, 13, 23}[i / 3], d, i % 3);
            h = 31 * (31 * h + p.begin(d, 0)) + p.begin(d, 1);
            h = 31 * (31 * h + p.dress(d, 0)) + p.dress(d, 1);
            h = 31 * h + p.ways(d);
        }
        for (int beat : new int[] {3, 11, 23}) {
            h = 31 * (31 * h + p.step(beat, 0)) + p.step(beat, 1);
            h = 31 * (31 * h + p.chance(5, beat, 0)) + p.chance(5, beat, 1);
        }
        long[] rest = {p.sum(0), p.sum(1), p.sum(2), p.run(0), p.run(1), p.bare(), p.top(), p.lacks(), p.spare(-1),
            p.spare(0), p.never(), p.lengths(), p.ask(), p.dances(7, 18, 0), p.dances(7, 18, 1)};
        for (long v : rest) h = 31 * h + v;
        return h;
    }

    private static void digest() {
        MayPole p = Check.told("ar1;dl2;gr1;jl3", "oouutouus");
        p.ribbons(3);
        p.event(1, 1, 0);
        p.event(2, 8, 3);
        p.seen(2, 1);
        long was = p.digest();
        Check.due("digest", was, digestByHand(p));
        p.sheet(0, 0, 4);
        p.read(1);
        Check.due("neither sheets nor findings are in it", p.digest(), was);
        MayPole spared = Check.told("ar1;bl2", "otu");
        spared.event(0, 0, 5);
        spared.event(1, 2, 0);
        Check.due("digest with one to spare", spared.digest(), digestByHand(spared));
        Check.due("digest of a new one", new MayPole().digest(), digestByHand(new MayPole()));
    }
}
