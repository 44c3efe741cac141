import java.util.List;
import java.util.function.Consumer;
import java.util.function.Function;
import java.util.function.Supplier;

/**
 * Whatever was asked before something is told or undone, each answer from then on is that of a new
 * one told so from the beginning.
 */
public final class EdgesOfChangesTest {
    private static final Tale BASE = Tale.of("ar1;bl2;er1;gl3", "oouuotuuoo").ribboned(4)
        .event(1, 2, 0).event(2, 7, 2).saw(1, 2);
    /** Asking of SHEETS comes to FINDINGS and loses them; it has no part in this. */
    private static final int SHEETS_PART = 7;

    public static void main(String[] args) {
        Check.sentence("With a FAULT a text is as if it was empty");
        change("type(0, ;)", BASE, p -> p.type(0, ';'), BASE.by(BASE.dancers() + ";"));
        change("undo(0)", BASE, p -> p.undo(0), BASE.by("ar1;bl2;er1;gl"));
        change("type(1, x)", BASE, p -> p.type(1, 'x'), BASE.danced(BASE.steps() + "x"));
        Check.sentence("A byte comes behind a text; the last byte of a text is undone; a text is empty");
        change("type(0, 3)", BASE.by("ar1;bl2;er1;gl"), p -> p.type(0, '3'), BASE);
        change("type(1, o)", BASE.danced("oouuotuuo"), p -> p.type(1, 'o'), BASE);
        change("undo(0)", BASE.by("ar1;bl2;er1;gl3;"), p -> p.undo(0), BASE);
        change("undo(1)", BASE.danced("oouuotuuoox"), p -> p.undo(1), BASE);
        change("undo(1)", BASE, p -> p.undo(1), BASE.danced("oouuotuuo"));
        change("wipe(0)", BASE, p -> p.wipe(0), BASE.by(""));
        change("wipe(1)", BASE, p -> p.wipe(1), BASE.danced(""));
        Check.sentence("How long RIBBONS are");
        for (int v : new int[] {2, 3, 30}) change("ribbons", BASE, p -> p.ribbons(v), BASE.ribboned(v));
        Check.sentence("An EVENT more; the last EVENT is undone; EVENTS from a SHEET");
        for (int kind = 0; kind <= 2; kind++) {
            int k = kind;
            change("event", BASE, p -> p.event(k, 1, 3), BASE.event(k, 1, 3));
        }
        change("back", BASE, MayPole::back, BASE.only(1));
        change("back, then another", BASE, EdgesOfChangesTest::another, BASE.only(1).event(0, 0, 1));
        compare("read", () -> readFrom(asked(BASE)), () -> readFrom(BASE.make()));
        compare("read", () -> readFrom(asked(BASE)), BASE.event(0, 3, 1).event(2, 0, 1)::make);
        Check.sentence("SEEN more; all SEEN are forgotten");
        change("seen", BASE, p -> p.seen(9, 0), BASE.saw(9, 0));
        change("forget", BASE.saw(9, 0).saw(0, 0), EdgesOfChangesTest::seenAnew, BASE);
        Check.end("EdgesOfChangesTest");
    }

    private static MayPole asked(Tale tale) {
        MayPole p = tale.make();
        p.digest();
        return p;
    }

    private static void another(MayPole p) {
        p.back();
        p.digest();
        p.event(0, 0, 1);
    }

    private static void seenAnew(MayPole p) {
        p.forget();
        p.seen(1, 2);
    }

    private static MayPole readFrom(MayPole p) {
        Check.layAll(p, 0, 1, 0, 3, 1, 2, 0, 1);
        Check.due("read", p.read(0), 2);
        return p;
    }

    private static void change(String call, Tale before, Consumer<MayPole> act, Tale after) {
        compare(call, () -> {
            MayPole p = asked(before);
            act.accept(p);
            return p;
        }, after::make);
    }

    private static void compare(String call, Supplier<MayPole> changed, Supplier<MayPole> due) {
        for (int part = 0; part < Probe.PARTS.size(); part++) {
            if (part == SHEETS_PART) continue;
            Function<MayPole, List<Long>> asking = Probe.PARTS.get(part);
            boolean alike = asking.apply(changed.get()).equals(asking.apply(due.get()));
            Check.due("part " + part + " behind " + call, alike ? 1 : 0, 1);
        }
    }
}
