import java.math.BigInteger;
import java.util.ArrayList;
import java.util.Arrays;
import java.util.List;
import java.util.regex.Pattern;

/**
 * The document told a second time, as plainly as can be and without any thought of cost, for
 * OracleTest to hold the class against: everything is found anew for each call.
 */
final class Oracle {
    record Dancer(int place, boolean right, int colour) {
    }

    record Event(int kind, int beat, int number) {
    }

    record Show(List<Dancer> dancers, List<Character> steps, int length, List<Event> events) {
    }

    record Crossing(int over, int under, int beat, boolean overWentRight) {
    }

    record Behind(int[] place, boolean[] right, int[] left, int on, int met) {
    }

    record Outcome(List<Behind> beats, List<Crossing> weave, int met, int woven, int unwound, int letGo) {
        int high() {
            return weave.size();
        }
    }

    private static final Pattern STEPS = Pattern.compile("[oust]*"), DANCER = Pattern.compile("[a-l][rl][0-9]"),
        BEGUN = Pattern.compile("([a-l]([rl]([0-9])?)?)?"), WHOLE = Pattern.compile("...(;...)*");

    private final StringBuilder[] texts = {new StringBuilder(), new StringBuilder()};
    private final List<Event> events = new ArrayList<>();
    private final List<int[]> seen = new ArrayList<>();
    private final Object[] sheets = new Object[4];
    private int length = 20;
    private int finding = 0;

    // ---- the dance

    static Outcome dance(Show show) {
        int n = show.dancers().size();
        int[] place = new int[n];
        boolean[] right = new boolean[n], gone = new boolean[n];
        for (int d = 0; d < n; d++) {
            place[d] = show.dancers().get(d).place();
            right[d] = show.dancers().get(d).right();
        }
        List<Behind> beats = new ArrayList<>();
        List<Crossing> weave = new ArrayList<>();
        int met = 0, woven = 0, unwound = 0;
        for (int beat = 0; beat < 24; beat++) {
            boolean[] stumbles = new boolean[8], wrong = new boolean[8];
            for (Event e : show.events()) {
                if (e.beat() != beat || e.number() >= n) continue;
                if (e.kind() == 0) stumbles[e.number()] = true;
                if (e.kind() == 1) wrong[e.number()] = true;
                if (e.kind() == 2) gone[e.number()] = true;
            }
            char step = show.steps().get(beat);
            int metNow = 0;
            if (step == 't') {
                for (int d = 0; d < n; d++) right[d] = !right[d];
            } else if (step != 's') {
                int[] was = place.clone();
                for (int d = 0; d < n; d++) {
                    boolean caught = !gone[d] && left(show.length(), weave, d) == 0;
                    if (!stumbles[d] && !caught) place[d] = Math.floorMod(place[d] + (right[d] ? 1 : -1), 12);
                }
                for (int a = 0; a < n; a++) {
                    for (int b = a + 1; b < n; b++) {
                        boolean changed = was[a] != was[b] && place[a] == was[b] && place[b] == was[a];
                        boolean joined = place[a] == place[b] && was[a] != was[b];
                        if (right[a] == right[b] || !(changed || joined)) continue;
                        metNow++;
                        if (gone[a] || gone[b]) continue;
                        int goesRight = right[a] ? a : b, goesLeft = right[a] ? b : a;
                        int over = step == 'o' ? goesRight : goesLeft, under = step == 'o' ? goesLeft : goesRight;
                        if (wrong[a] ^ wrong[b]) {
                            int other = over;
                            over = under;
                            under = other;
                        }
                        Crossing last = weave.isEmpty() ? null : weave.get(weave.size() - 1);
                        if (last != null && last.over() == over && last.under() == under
                            && last.overWentRight() != right[over]) {
                            weave.remove(weave.size() - 1);
                            unwound++;
                        } else if (left(show.length(), weave, a) > 0 && left(show.length(), weave, b) > 0) {
                            weave.add(new Crossing(over, under, beat, right[over]));
                            woven++;
                        }
                    }
                }
            }
            met += metNow;
            int[] left = new int[n];
            for (int d = 0; d < n; d++) left[d] = left(show.length(), weave, d);
            beats.add(new Behind(place.clone(), right.clone(), left, weave.size(), metNow));
        }
        int letGo = 0;
        for (boolean g : gone) letGo += g ? 1 : 0;
        return new Outcome(beats, weave, met, woven, unwound, letGo);
    }

    private static int left(int length, List<Crossing> weave, int d) {
        int left = length;
        for (Crossing c : weave) {
            if (c.over() == d || c.under() == d) left--;
        }
        return left;
    }

    // ---- texts

    private static boolean canGoOn(int text, String prefix) {
        if (text == 1) return STEPS.matcher(prefix).matches();
        String[] parts = prefix.split(";", -1);
        StringBuilder letters = new StringBuilder();
        for (int i = 0; i < parts.length; i++) {
            boolean whole = i < parts.length - 1;
            if (!(whole ? DANCER : BEGUN).matcher(parts[i]).matches()) return false;
            if (parts[i].isEmpty()) continue;
            if (i == 8) return false;
            if (letters.indexOf(parts[i].substring(0, 1)) >= 0) return false;
            letters.append(parts[i].charAt(0));
        }
        return true;
    }

    private static boolean isWhole(int text, String all) {
        return all.isEmpty() || text == 1 || WHOLE.matcher(all).matches();
    }

    private static int faultOf(int text, String all) {
        for (int i = 0; i < all.length(); i++) {
            if (!canGoOn(text, all.substring(0, i + 1))) return i;
        }
        return isWhole(text, all) ? -1 : all.length();
    }

    private String well(int text) {
        String all = texts[text].toString();
        return faultOf(text, all) == -1 ? all : "";
    }

    private List<Dancer> dancers() {
        List<Dancer> all = new ArrayList<>();
        String told = well(0);
        if (told.isEmpty()) return all;
        for (String part : told.split(";")) {
            all.add(new Dancer(part.charAt(0) - 'a', part.charAt(1) == 'r', part.charAt(2) - '0'));
        }
        return all;
    }

    private List<Character> stepList() {
        List<Character> all = new ArrayList<>();
        String told = well(1);
        for (int i = 0; i < 24; i++) all.add(i < told.length() ? told.charAt(i) : 's');
        return all;
    }

    private Show told() {
        return new Show(dancers(), stepList(), length, List.copyOf(events));
    }

    private Outcome danced() {
        return dance(told());
    }

    private static <T> List<T> with(List<T> list, int i, T x) {
        List<T> other = new ArrayList<>(list);
        other.set(i, x);
        return other;
    }

    // ---- calls

    int type(int text, int b) {
        if (text < 0 || text > 1 || b < 0 || b > 255) return -2;
        if (texts[text].length() == (text == 0 ? 31 : 24)) return -4;
        texts[text].append((char) b);
        return texts[text].length();
    }

    int wipe(int text) {
        if (text < 0 || text > 1) return -2;
        int had = texts[text].length();
        texts[text].setLength(0);
        return had;
    }

    int undo(int text) {
        if (text < 0 || text > 1) return -2;
        if (texts[text].length() == 0) return -3;
        texts[text].setLength(texts[text].length() - 1);
        return texts[text].length();
    }

    int fault(int text) {
        return text < 0 || text > 1 ? -2 : faultOf(text, texts[text].toString());
    }

    int dancer(int d, int what) {
        if (d < 0 || d >= dancers().size() || what < 0 || what > 2) return -2;
        Dancer it = dancers().get(d);
        return new int[] {it.place(), it.right() ? 0 : 1, it.colour()}[what];
    }

    int steps(int beat) {
        return beat < 0 || beat > 23 ? -2 : "oust".indexOf(stepList().get(beat));
    }

    int ribbons(int v) {
        if (v < 2 || v > 30) return -2;
        int was = length;
        length = v;
        return was;
    }

    int event(int kind, int beat, int number) {
        if (kind < 0 || kind > 2 || beat < 0 || beat > 23 || number < 0 || number > 7) return -2;
        if (events.size() == 8) return -4;
        events.add(new Event(kind, beat, number));
        return events.size();
    }

    int back() {
        if (events.isEmpty()) return -3;
        events.remove(events.size() - 1);
        return events.size();
    }

    int read(int s) {
        if (s < 0 || s > 3) return -2;
        if (sheets[s] == null) return found(1);
        int came = 0;
        for (int i = 0; i < sizeOf(s) / 3; i++) {
            if (event(item(s, 3 * i), item(s, 3 * i + 1), item(s, 3 * i + 2)) < 0) return came;
            came++;
        }
        return came;
    }

    int at(int beat, int d, int what) {
        if (beat < 0 || beat > 23 || d < 0 || d >= dancers().size() || what < 0 || what > 2) return -2;
        Behind b = danced().beats().get(beat);
        return new int[] {b.place()[d], b.right()[d] ? 0 : 1, b.left()[d]}[what];
    }

    int high(int beat, int what) {
        if (beat < 0 || beat > 23 || what < 0 || what > 1) return -2;
        Behind b = danced().beats().get(beat);
        return what == 0 ? b.on() : b.met();
    }

    int weave(int i, int what) {
        if (i < 0 || i > 119 || what < 0 || what > 2) return -2;
        List<Crossing> all = danced().weave();
        if (i >= all.size()) return -1;
        Crossing c = all.get(i);
        return new int[] {c.over(), c.under(), c.beat()}[what];
    }

    private static List<Integer> coloursOver(Outcome o, List<Dancer> dancers) {
        List<Integer> all = new ArrayList<>();
        for (Crossing c : o.weave()) all.add(dancers.get(c.over()).colour());
        return all;
    }

    int shows(int colour) {
        if (colour < 0 || colour > 9) return -2;
        int many = 0;
        for (int c : coloursOver(danced(), dancers())) many += c == colour ? 1 : 0;
        return many;
    }

    int sum(int what) {
        if (what < 0 || what > 2) return -2;
        Outcome o = danced();
        return new int[] {o.met(), o.woven(), o.unwound()}[what];
    }

    private static int[] runOf(List<Integer> colours) {
        for (int many = colours.size(); many > 0; many--) {
            for (int from = 0; from + many <= colours.size(); from++) {
                if (colours.subList(from, from + many).stream().distinct().count() == 1) return new int[] {many, from};
            }
        }
        return new int[] {0, -1};
    }

    int run(int what) {
        return what < 0 || what > 1 ? -2 : runOf(coloursOver(danced(), dancers()))[what];
    }

    int bare() {
        int last = -1;
        List<Behind> beats = danced().beats();
        for (int beat = 0; beat < 24; beat++) {
            if (beats.get(beat).on() == 0) last = beat;
        }
        return last;
    }

    int top() {
        int[] times = new int[8];
        for (Crossing c : danced().weave()) times[c.over()]++;
        int most = Arrays.stream(times).max().getAsInt();
        for (int d = 0; d < 8; d++) {
            if (most > 0 && times[d] == most) return d;
        }
        return -1;
    }

    int lacks() {
        int bits = 0;
        int[] left = danced().beats().get(23).left();
        for (int d = 0; d < left.length; d++) bits += left[d] == 0 ? 1 << d : 0;
        return bits;
    }

    int step(int beat, int what) {
        if (beat < 0 || beat > 23 || what < 0 || what > 1) return -2;
        int[] highs = new int[4];
        for (int s = 0; s < 4; s++) {
            highs[s] = dance(new Show(dancers(), with(stepList(), beat, "oust".charAt(s)), length, events)).high();
        }
        int most = Arrays.stream(highs).max().getAsInt();
        for (int s = 0; s < 4; s++) {
            if (highs[s] == most) return what == 0 ? s : most;
        }
        return -99;
    }

    int begin(int d, int what) {
        if (d < 0 || d >= dancers().size() || what < 0 || what > 1) return -2;
        int[] best = {-1, -1};
        for (int place = 11; place >= 0; place--) {
            boolean free = true;
            for (int other = 0; other < dancers().size(); other++) {
                if (other != d && dancers().get(other).place() == place) free = false;
            }
            if (!free) continue;
            Dancer was = dancers().get(d);
            Dancer is = new Dancer(place, was.right(), was.colour());
            int on = dance(new Show(with(dancers(), d, is), stepList(), length, events)).high();
            if (on >= best[1]) best = new int[] {place, on};
        }
        return best[what];
    }

    int dress(int d, int what) {
        if (d < 0 || d >= dancers().size() || what < 0 || what > 1) return -2;
        int[] best = {-1, 1000};
        for (int colour = 9; colour >= 0; colour--) {
            Dancer was = dancers().get(d);
            List<Dancer> dressed = with(dancers(), d, new Dancer(was.place(), was.right(), colour));
            int run = runOf(coloursOver(dance(new Show(dressed, stepList(), length, events)), dressed))[0];
            if (run <= best[1]) best = new int[] {colour, run};
        }
        return best[what];
    }

    private boolean endsBareWithout(int... spared) {
        List<Event> rest = new ArrayList<>();
        for (int e = 0; e < events.size(); e++) {
            int it = e;
            if (Arrays.stream(spared).noneMatch(x -> x == it)) rest.add(events.get(e));
        }
        return dance(new Show(dancers(), stepList(), length, rest)).high() == 0;
    }

    int spare(int i) {
        if (i < -1 || i > 1) return -2;
        if (endsBareWithout()) return i == -1 ? 0 : -1;
        for (int a = 0; a < events.size(); a++) {
            if (endsBareWithout(a)) return new int[] {1, a, -1}[i + 1];
        }
        for (int a = 0; a < events.size(); a++) {
            for (int b = a + 1; b < events.size(); b++) {
                if (endsBareWithout(a, b)) return new int[] {2, a, b}[i + 1];
            }
        }
        return -1;
    }

    int seen(int beat, int many) {
        if (beat < 0 || beat > 23 || many < 0 || many > 120) return -2;
        if (seen.size() == 8) return -4;
        seen.add(new int[] {beat, many});
        return seen.size();
    }

    int forget() {
        int had = seen.size();
        seen.clear();
        return had;
    }

    private boolean comesOut(Show show) {
        Outcome o = dance(show);
        return seen.stream().allMatch(x -> o.beats().get(x[0]).on() == x[1]);
    }

    int never() {
        int bits = 0;
        for (int e = 0; e < events.size(); e++) {
            List<Event> rest = new ArrayList<>(events);
            rest.remove(e);
            if (comesOut(new Show(dancers(), stepList(), length, rest))) bits += 1 << e;
        }
        return bits;
    }

    int ways(int d) {
        if (d < 0 || d >= dancers().size()) return -2;
        Dancer was = dancers().get(d);
        int bits = 0;
        for (int way = 0; way < 2; way++) {
            Dancer is = new Dancer(was.place(), way == 0, was.colour());
            if (comesOut(new Show(with(dancers(), d, is), stepList(), length, events))) bits += 1 << way;
        }
        return bits;
    }

    int lengths() {
        int bits = 0;
        for (int v = 2; v <= 30; v++) bits += comesOut(new Show(dancers(), stepList(), v, events)) ? 1 << v : 0;
        return bits;
    }

    int ask() {
        int[][] highs = new int[31][];
        for (int v = 2; v <= 30; v++) {
            Show show = new Show(dancers(), stepList(), v, events);
            if (comesOut(show)) highs[v] = dance(show).beats().stream().mapToInt(Behind::on).toArray();
        }
        int best = -1, fewest = 1000;
        for (int beat = 0; beat < 24; beat++) {
            int greatest = 0;
            for (int on = 0; on <= 120; on++) {
                int like = 0;
                for (int[] row : highs) like += row != null && row[beat] == on ? 1 : 0;
                greatest = Math.max(greatest, like);
            }
            if (greatest < fewest) {
                fewest = greatest;
                best = beat;
            }
        }
        return best;
    }

    long chance(int c, int beat, int what) {
        if (c < 0 || c > 16 || beat < 0 || beat > 23 || what < 0 || what > 1) return Long.MIN_VALUE + 2;
        BigInteger above = bareWeight(c, beat, told(), new ArrayList<>());
        BigInteger below = BigInteger.valueOf(16).pow(events.size());
        BigInteger common = above.gcd(below);
        return (what == 0 ? above : below).divide(common).longValueExact();
    }

    private static BigInteger bareWeight(int c, int beat, Show rest, List<Event> sofar) {
        if (rest.events().isEmpty()) {
            Outcome o = dance(new Show(rest.dancers(), rest.steps(), rest.length(), sofar));
            return o.beats().get(beat).on() == 0 ? BigInteger.ONE : BigInteger.ZERO;
        }
        List<Event> more = new ArrayList<>(sofar);
        more.add(rest.events().get(0));
        List<Event> later = rest.events().subList(1, rest.events().size());
        Show other = new Show(rest.dancers(), rest.steps(), rest.length(), later);
        return bareWeight(c, beat, other, more).multiply(BigInteger.valueOf(c))
            .add(bareWeight(c, beat, other, sofar).multiply(BigInteger.valueOf(16 - c)));
    }

    int dances(int seed, int n, int what) {
        if (n < 0 || n > 24 || what < 0 || what > 1) return -2;
        List<Character> lots = new ArrayList<>();
        long lot = seed;
        for (int i = 0; i < n; i++) {
            lot = (int) (1103515245L * lot + 12345L);
            lots.add("oust".charAt((int) ((lot >> 16 & 0xFFFF) % 4)));
        }
        while (lots.size() < 24) lots.add('s');
        Outcome o = dance(new Show(dancers(), lots, length, events));
        return what == 0 ? o.high() : o.unwound();
    }

    // ---- sheets

    private int found(int number) {
        finding = number;
        return -10 - number;
    }

    private int sizeOf(int s) {
        return java.lang.reflect.Array.getLength(sheets[s]);
    }

    private int item(int s, int i) {
        return java.lang.reflect.Array.getInt(sheets[s], i);
    }

    private int formOf(int s) {
        return sheets[s] instanceof byte[] ? 0 : sheets[s] instanceof short[] ? 1 : 2;
    }

    private void put(int s, int i, int v) {
        if (sheets[s] instanceof byte[] row) row[i] = (byte) v;
        else if (sheets[s] instanceof short[] row) row[i] = (short) v;
        else ((int[]) sheets[s])[i] = v;
    }

    int sheet(int s, int form, int n) {
        if (s < 0 || s > 3 || form < 0 || form > 2 || n > 60) return -2;
        if (n < 0) return found(5);
        sheets[s] = form == 0 ? new byte[n] : form == 1 ? new short[n] : new int[n];
        return n;
    }

    int lose(int s) {
        if (s < 0 || s > 3) return -2;
        if (sheets[s] == null) return found(1);
        int had = sizeOf(s);
        sheets[s] = null;
        return had;
    }

    private int findingAt(int s, int form, int i) {
        if (sheets[s] == null) return found(1);
        if (formOf(s) != form) return found(3);
        return i < 0 || i >= sizeOf(s) ? found(2) : 0;
    }

    int lay(int s, int form, int i, int v) {
        if (s < 0 || s > 3 || form < 0 || form > 2) return -2;
        int refusal = findingAt(s, form, i);
        if (refusal != 0) return refusal;
        put(s, i, v);
        return 1;
    }

    int get(int s, int form, int i) {
        if (s < 0 || s > 3 || form < 0 || form > 2) return Integer.MIN_VALUE;
        return findingAt(s, form, i) != 0 ? Integer.MIN_VALUE : item(s, i);
    }

    int copy(int s, int i, int t, int j, int n) {
        if (s < 0 || s > 3 || t < 0 || t > 3) return -2;
        if (sheets[s] == null || sheets[t] == null) return found(1);
        if (formOf(s) != formOf(t)) return found(4);
        boolean well = i >= 0 && j >= 0 && n >= 0 && (long) i + n <= sizeOf(s) && (long) j + n <= sizeOf(t);
        if (!well) return found(2);
        int[] taken = new int[n];
        for (int k = 0; k < n; k++) taken[k] = item(s, i + k);
        for (int k = 0; k < n; k++) put(t, j + k, taken[k]);
        return 1;
    }

    int write(int s) {
        if (s < 0 || s > 3) return -2;
        if (sheets[s] == null) return found(1);
        int many = 0;
        for (int colour : coloursOver(danced(), dancers())) {
            if (many < sizeOf(s)) put(s, many++, colour);
        }
        return many;
    }

    int count(int what) {
        switch (what) {
            case 0: return dancers().size();
            case 1: return well(1).length();
            case 2: return texts[0].length() + texts[1].length();
            case 3: return events.size();
            case 4: return danced().high();
            case 5: return length;
            case 6: return danced().letGo();
            case 7: return seen.size();
            case 8: return finding;
            default: return -2;
        }
    }
}
