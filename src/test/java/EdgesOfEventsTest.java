/** Each sentence that names an edge of RIBBONS and EVENTS as told: Terms, promises 8 to 11. */
public final class EdgesOfEventsTest {
    private static final int BAD = Check.BAD, NOT = Check.NOT, FULL = Check.FULL;

    public static void main(String[] args) {
        ribbons();
        ribbonsAllAlike();
        eventsEightAtMost();
        eventNumbers();
        noSuchOne();
        back();
        readWhole();
        readWithRoom();
        readAsLongAsEachMayBe();
        readForms();
        readRefuses();
        Check.end("EdgesOfEventsTest");
    }

    private static void ribbons() {
        Check.sentence("RIBBONS are 2 to 30 long (20 at first): what it was. BAD");
        MayPole p = new MayPole();
        int was = 20;
        for (int v = 2; v <= 30; v++) {
            Check.due("ribbons(" + v + ")", p.ribbons(v), was);
            Check.due("count(5)", p.count(5), v);
            was = v;
        }
        for (int v : Check.beside(2, 30)) Check.due("ribbons(" + v + ")", p.ribbons(v), BAD);
        for (int v = -1; v <= 1; v++) Check.due("ribbons(" + v + ")", p.ribbons(v), BAD);
        Check.due("refused ones change nothing", p.count(5), 30);
        Check.due("what it was", p.ribbons(30), 30);
    }

    private static void ribbonsAllAlike() {
        Check.sentence("RIBBONS are 2 to 30 long, all alike");
        MayPole p = Check.told(Check.EIGHT, "s");
        for (int v : new int[] {2, 30}) {
            p.ribbons(v);
            for (int d = 0; d < 8; d++) Check.due("left of " + d, p.at(0, d, 2), v);
        }
    }

    private static void eventsEightAtMost() {
        Check.sentence("EVENTS, 8 at most (0 on). An EVENT more: how many. BAD; FULL");
        MayPole p = new MayPole();
        for (int i = 1; i <= 8; i++) Check.due("event", p.event(2, 0, i - 1), i);
        Check.due("a ninth", p.event(0, 0, 0), FULL);
        Check.due("BAD ahead of FULL", p.event(3, 0, 0), BAD);
        Check.due("BAD ahead of FULL", p.event(0, 24, 0), BAD);
        Check.due("BAD ahead of FULL", p.event(0, 0, 8), BAD);
        Check.due("count(3)", p.count(3), 8);
        Check.due("back", p.back(), 7);
        Check.due("room for one", p.event(0, 0, 0), 8);
        Check.due("and no more", p.event(0, 0, 0), FULL);
    }

    private static void eventNumbers() {
        Check.sentence("a kind, a BEAT, a number 0 to 7");
        MayPole p = new MayPole();
        for (int x : Check.beside(0, 2)) Check.due("kind " + x, p.event(x, 0, 0), BAD);
        for (int x : Check.beside(0, 23)) Check.due("BEAT " + x, p.event(0, x, 0), BAD);
        for (int x : Check.beside(0, 7)) Check.due("number " + x, p.event(0, 0, x), BAD);
        Check.due("none came", p.count(3), 0);
        int[][] taken = {{0, 0, 0}, {2, 0, 0}, {0, 23, 0}, {0, 0, 7}, {2, 23, 7}, {1, 23, 7}, {1, 0, 0}, {1, 12, 3}};
        for (int i = 0; i < 8; i++) Check.due("taken", p.event(taken[i][0], taken[i][1], taken[i][2]), i + 1);
    }

    private static void noSuchOne() {
        Check.sentence("(nothing, where there is no such one)");
        Tale two = Tale.of("ar1;bl2", "ootouu");
        for (int kind = 0; kind <= 2; kind++) {
            for (int number = 2; number <= 7; number++) {
                MayPole with = two.event(kind, 0, number).make(), without = two.make();
                for (int beat = 0; beat < 24; beat++) {
                    Check.due("high", with.high(beat, 0), without.high(beat, 0));
                    Check.due("met", with.high(beat, 1), without.high(beat, 1));
                    for (int i = 0; i < 6; i++) {
                        Check.due("at", with.at(beat, i / 3, i % 3), without.at(beat, i / 3, i % 3));
                    }
                }
                Check.due("who LET GO", with.count(6), 0);
                Check.due("it is one of EVENTS all the same", with.count(3), 1);
            }
        }
        MayPole p = Tale.of("al1;br2", "o").event(2, 0, 2).make();
        Check.due("no such one so far", p.count(6), 0);
        for (char b : ";cl3".toCharArray()) p.type(0, b);
        Check.due("there is now", p.count(6), 1);
        MayPole none = Tale.of("", "o").event(0, 0, 0).event(1, 0, 0).event(2, 0, 0).make();
        Check.due("nobody at all", none.count(6), 0);
        Check.due("nobody at all", none.bare(), 23);
    }

    private static void back() {
        Check.sentence("The last EVENT is undone: how many are left. NOT: there is none");
        MayPole p = Check.told("ar1;bl2;er0;gl0", "o");
        Check.due("of none", p.back(), NOT);
        p.event(2, 0, 0);
        p.event(2, 0, 2);
        Check.due("both let go", p.high(0, 0), 0);
        Check.due("one is left", p.back(), 1);
        Check.due("the last one holds on", p.high(0, 0), 1);
        Check.due("not the first one", p.weave(0, 0), 2);
        Check.due("none is left", p.back(), 0);
        Check.due("both hold on", p.high(0, 0), 2);
        Check.due("of none again", p.back(), NOT);
        Check.due("again", p.back(), NOT);
        Check.due("an EVENT behind NOT", p.event(0, 0, 0), 1);
        for (int i = 2; i <= 8; i++) p.event(0, 0, 0);
        for (int left = 7; left >= 0; left--) Check.due("from eight", p.back(), left);
    }

    private static void readWhole() {
        Check.sentence("its items, three for each, as many as are whole");
        for (int n = 0; n <= 60; n++) {
            MayPole p = new MayPole();
            p.sheet(n % 4, n % 3, n);
            int due = Math.min(n / 3, 8);
            Check.due("read of " + n + " items", p.read(n % 4), due);
            Check.due("count(3)", p.count(3), due);
        }
        MayPole p = Check.told("ar1;gl2;cr1;il2", Check.ALL_O);
        Check.layAll(p, 0, 0, 2, 0, 1, 2, 23, 3, 0, 5);
        Check.due("two are whole", p.read(0), 2);
        Check.due("kind, BEAT, number", p.count(6), 2);
        Check.due("the first is in 0", p.at(23, 1, 2), 20);
        Check.due("the first of those two is undone last", p.back(), 1);
        Check.due("it is the second that went", p.count(6), 1);
        Check.due("the row stays", p.get(0, 0, 7), 5);
        Check.due("the row stays", p.lose(0), 8);
    }

    private static void readWithRoom() {
        Check.sentence("EVENTS from a SHEET: how many");
        for (int had = 0; had <= 8; had++) {
            MayPole p = new MayPole();
            for (int i = 0; i < had; i++) p.event(0, 0, 7);
            p.sheet(3, 2, 9);
            int due = Math.min(3, 8 - had);
            Check.due("read behind " + had, p.read(3), due);
            Check.due("count(3)", p.count(3), had + due);
            Check.due("no finding", p.count(8), 0);
        }
    }

    private static void readAsLongAsEachMayBe() {
        Check.sentence("as long as each may be");
        int[][] wrong = {{-1, 0, 0}, {3, 0, 0}, {0, -1, 0}, {0, 24, 0}, {0, 0, -1}, {0, 0, 8}};
        for (int[] w : wrong) {
            MayPole first = new MayPole(), second = new MayPole();
            Check.layAll(first, 0, 1, w[0], w[1], w[2], 0, 0, 0);
            Check.due("the first may not be", first.read(0), 0);
            Check.due("nor comes what is behind it", first.count(3), 0);
            Check.layAll(second, 0, 1, 2, 23, 7, w[0], w[1], w[2], 0, 0, 0);
            Check.due("the second may not be", second.read(0), 1);
            Check.due("nor comes what is behind it", second.count(3), 1);
            Check.due("no finding", second.count(8), 0);
        }
        MayPole p = new MayPole();
        Check.layAll(p, 0, 2, 65536, 0, 0);
        Check.due("an int is taken whole", p.read(0), 0);
        Check.layAll(p, 0, 2, 256, 0, 0);
        Check.due("an int is taken whole", p.read(0), 0);
    }

    private static void readForms() {
        Check.sentence("EVENTS from a SHEET: its items");
        for (int form = 0; form <= 2; form++) {
            MayPole p = Check.told("ar1;bl2", "o");
            Check.layAll(p, form, form, 2, 0, 1);
            Check.due("read", p.read(form), 1);
            Check.due("who LET GO", p.count(6), 1);
            Check.due("high", p.high(0, 0), 0);
        }
    }

    private static void readRefuses() {
        Check.sentence("BAD; NULL");
        MayPole p = new MayPole();
        for (int s : Check.beside(0, 3)) Check.due("read(" + s + ")", p.read(s), BAD);
        Check.due("BAD is no FINDING", p.count(8), 0);
        for (int s = 0; s <= 3; s++) Check.due("read(" + s + ")", p.read(s), Check.NULL);
        Check.due("NULL is one", p.count(8), 1);
        p.sheet(0, 0, 3);
        Check.due("read(0)", p.read(0), 1);
        p.lose(0);
        Check.due("LOST again", p.read(0), Check.NULL);
        Check.due("what came stays", p.count(3), 1);
    }
}
