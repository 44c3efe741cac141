/** Promises 1 to 11: the new object, texts, ribbons, events. */
public final class TellingTest {
    public static void main(String[] args) {
        newObject();
        type();
        wipe();
        undo();
        faultOfDancers();
        faultOfSteps();
        textWithFaultIsAsEmpty();
        dancer();
        steps();
        ribbons();
        event();
        back();
        read();
        readRefuses();
        Check.end("TellingTest");
    }

    private static void newObject() {
        MayPole p = new MayPole();
        long[] due = {0, 0, 0, 0, 0, 20, 0, 0, 0};
        for (int what = 0; what < due.length; what++) Check.due("new count(" + what + ")", p.count(what), due[what]);
        for (int s = 0; s < 4; s++) Check.due("new lose", p.lose(s), Check.NULL);
        for (int beat = 0; beat < 24; beat++) Check.due("new steps", p.steps(beat), 2);
        Check.due("new fault(0)", p.fault(0), Check.NONE);
        Check.due("new fault(1)", p.fault(1), Check.NONE);
        MayPole q = new MayPole();
        q.type(0, 'a');
        Check.due("two objects share nothing", p.count(2), 0);
    }

    private static void type() {
        MayPole p = new MayPole();
        for (int i = 1; i <= 31; i++) Check.due("type 0", p.type(0, i == 1 ? 0 : 255), i);
        Check.due("type 0 full", p.type(0, 'a'), Check.FULL);
        for (int i = 1; i <= 24; i++) Check.due("type 1", p.type(1, 'o'), i);
        Check.due("type 1 full", p.type(1, 'o'), Check.FULL);
        Check.due("type BAD ahead of FULL", p.type(1, 256), Check.BAD);
        Check.due("type text -1", p.type(-1, 'o'), Check.BAD);
        Check.due("type text 2", p.type(2, 'o'), Check.BAD);
        Check.due("type byte -1", p.type(0, -1), Check.BAD);
        Check.due("refused changes nothing", p.count(2), 55);
        Check.due("steps stay", p.count(1), 24);
    }

    private static void wipe() {
        MayPole p = Check.told("ar1", "ou");
        Check.due("wipe(0)", p.wipe(0), 3);
        Check.due("dancers", p.count(0), 0);
        Check.due("steps stay", p.count(1), 2);
        Check.due("wipe(0) again", p.wipe(0), 0);
        Check.due("wipe(1)", p.wipe(1), 2);
        Check.due("wiped steps", p.steps(0), 2);
        Check.tell(p, 1, "x");
        Check.due("wipe of a fault", p.wipe(1), 1);
        Check.due("fault is gone", p.fault(1), Check.NONE);
        Check.due("wipe(-1)", p.wipe(-1), Check.BAD);
        Check.due("wipe(2)", p.wipe(2), Check.BAD);
    }

    private static void undo() {
        MayPole p = Check.told("ar1;", "ou");
        Check.due("not ended", p.count(0), 0);
        Check.due("undo(0)", p.undo(0), 3);
        Check.due("ended", p.count(0), 1);
        Check.due("undo(1)", p.undo(1), 1);
        Check.due("steps(1)", p.steps(1), 2);
        Check.due("undo(1)", p.undo(1), 0);
        Check.due("undo(1) of none", p.undo(1), Check.NOT);
        Check.due("undo(-1)", p.undo(-1), Check.BAD);
        Check.due("undo(2)", p.undo(2), Check.BAD);
    }

    private static void faultOf(int text, String bytes, int due) {
        MayPole p = new MayPole();
        Check.tell(p, text, bytes);
        Check.due("fault of " + bytes, p.fault(text), due);
    }

    private static void faultOfDancers() {
        faultOf(0, "", Check.NONE);
        faultOf(0, "a", 1);
        faultOf(0, "ar", 2);
        faultOf(0, "ar0", Check.NONE);
        faultOf(0, "ll9", Check.NONE);
        faultOf(0, "ar0;", 4);
        faultOf(0, "ar0;b", 5);
        faultOf(0, "ar0;bl", 6);
        faultOf(0, "m", 0);
        faultOf(0, "`", 0);
        faultOf(0, "A", 0);
        faultOf(0, ";", 0);
        faultOf(0, "aa", 1);
        faultOf(0, "ar/", 2);
        faultOf(0, "ar:", 2);
        faultOf(0, "ar12", 3);
        faultOf(0, "ar0;ar0", 4);
        faultOf(0, "ar0;bl0;br0", 8);
        faultOf(0, "ar0;;", 4);
        faultOf(0, "xr0;m", 0);
        faultOf(0, "ar0;br0;cr0;dr0;er0;fr0;gr0;hr0", Check.NONE);
        Check.due("fault(2)", new MayPole().fault(2), Check.BAD);
        Check.due("fault(-1)", new MayPole().fault(-1), Check.BAD);
    }

    private static void faultOfSteps() {
        faultOf(1, "", Check.NONE);
        faultOf(1, "oust", Check.NONE);
        faultOf(1, "O", 0);
        faultOf(1, "ouxsx", 2);
        faultOf(1, Check.ALL_O, Check.NONE);
        faultOf(1, "ooooooooooooooooooooooo;", 23);
    }

    private static void textWithFaultIsAsEmpty() {
        MayPole p = Check.told("ar1;bl2", "ox");
        Check.due("steps with a fault", p.steps(0), 2);
        Check.due("count(1) with a fault", p.count(1), 0);
        Check.due("count(2) with a fault", p.count(2), 9);
        Check.due("nobody meets", p.sum(0), 0);
        p.undo(1);
        Check.due("they meet", p.sum(0), 1);
        p.type(0, ';');
        Check.due("dancers with a fault", p.count(0), 0);
        Check.due("dancer with a fault", p.dancer(0, 0), Check.BAD);
        Check.due("at with a fault", p.at(0, 0, 0), Check.BAD);
        Check.due("nobody is there", p.sum(0), 0);
    }

    private static void dancer() {
        MayPole p = Check.told("al9;lr0", "o");
        long[][] due = {{0, 1, 9}, {11, 0, 0}};
        for (int d = 0; d < 2; d++) {
            for (int what = 0; what < 3; what++) Check.due("dancer " + d + " " + what, p.dancer(d, what), due[d][what]);
        }
        Check.due("dancer(2, 0)", p.dancer(2, 0), Check.BAD);
        Check.due("dancer(-1, 0)", p.dancer(-1, 0), Check.BAD);
        Check.due("dancer(0, 3)", p.dancer(0, 3), Check.BAD);
        Check.due("dancer(0, -1)", p.dancer(0, -1), Check.BAD);
    }

    private static void steps() {
        MayPole p = Check.told("", "oust");
        for (int beat = 0; beat < 4; beat++) Check.due("steps(" + beat + ")", p.steps(beat), beat);
        for (int beat = 4; beat < 24; beat++) Check.due("later steps", p.steps(beat), 2);
        Check.due("steps(-1)", p.steps(-1), Check.BAD);
        Check.due("steps(24)", p.steps(24), Check.BAD);
    }

    private static void ribbons() {
        MayPole p = Check.told("ar1;bl2", "o");
        Check.due("ribbons(2)", p.ribbons(2), 20);
        Check.due("left", p.at(0, 0, 2), 1);
        Check.due("ribbons(30)", p.ribbons(30), 2);
        Check.due("left", p.at(0, 0, 2), 29);
        Check.due("ribbons(1)", p.ribbons(1), Check.BAD);
        Check.due("ribbons(31)", p.ribbons(31), Check.BAD);
        Check.due("refused changes nothing", p.count(5), 30);
    }

    private static void event() {
        MayPole p = new MayPole();
        int[][] bad = {{-1, 0, 0}, {3, 0, 0}, {0, -1, 0}, {0, 24, 0}, {0, 0, -1}, {0, 0, 8}};
        for (int[] e : bad) Check.due("bad event", p.event(e[0], e[1], e[2]), Check.BAD);
        for (int i = 1; i <= 8; i++) Check.due("event", p.event(i % 3, 23, 7), i);
        Check.due("event FULL", p.event(0, 0, 0), Check.FULL);
        Check.due("event BAD ahead of FULL", p.event(3, 0, 0), Check.BAD);
        Check.due("count(3)", p.count(3), 8);
    }

    private static void back() {
        MayPole p = Check.told("ar1;bl2", "o");
        Check.due("back of none", p.back(), Check.NOT);
        p.event(2, 0, 0);
        p.event(1, 0, 0);
        Check.due("who let go weaves nothing", p.high(0, 0), 0);
        Check.due("back", p.back(), 1);
        Check.due("the first is still there", p.high(0, 0), 0);
        Check.due("back", p.back(), 0);
        Check.due("woven again", p.high(0, 0), 1);
        Check.due("over as told", p.weave(0, 0), 0);
    }

    private static void layAll(MayPole p, int s, int form, int... items) {
        Check.due("sheet", p.sheet(s, form, items.length), items.length);
        for (int i = 0; i < items.length; i++) Check.due("lay", p.lay(s, form, i, items[i]), 1);
    }

    private static void read() {
        MayPole p = Check.told("ar1;bl2", "o");
        layAll(p, 1, 0, 1, 0, 0, 2, 23, 7, 0);
        Check.due("what is not whole is left", p.read(1), 2);
        Check.due("count(3)", p.count(3), 2);
        Check.due("the first goes wrong", p.weave(0, 0), 1);
        layAll(p, 2, 2, 0, 5, 5, 0, 24, 0, 0, 0, 0);
        Check.due("as long as each may be", p.read(2), 1);
        Check.due("EVENTS come behind those told", p.count(3), 3);
        layAll(p, 3, 1, 0, 0, -1, 0, 0, 0);
        Check.due("the first may not be", p.read(3), 0);
        p.sheet(0, 2, 60);
        Check.due("as long as there is room", p.read(0), 5);
        Check.due("full", p.read(0), 0);
        Check.due("count(3)", p.count(3), 8);
        p.back();
        p.sheet(0, 2, 3);
        Check.due("just one is whole", p.read(0), 1);
        p.back();
        p.sheet(0, 2, 2);
        Check.due("none is whole", p.read(0), 0);
    }

    private static void readRefuses() {
        MayPole p = new MayPole();
        Check.due("read(-1)", p.read(-1), Check.BAD);
        Check.due("read(4)", p.read(4), Check.BAD);
        Check.due("no finding", p.count(8), 0);
        Check.due("read of a lost one", p.read(0), Check.NULL);
        Check.due("finding", p.count(8), 1);
    }
}
