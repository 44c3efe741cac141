import java.util.Arrays;

/**
 * A maypole, as ../shared/DOC.md tells it. Every row is made with the object and used again, so no
 * call makes anything; what is dear to find out is kept until something told changes.
 */
public final class MayPole {
    public static final int NONE = -1, BAD = -2, NOT = -3, FULL = -4;

    private static final int PLACES = 12, BEATS = 24, LAST_BEAT = 23, COLOURS = 10;
    private static final int MOST_DANCERS = 8, MOST_EVENTS = 8, MOST_SEEN = 8, MOST_ON = 120;
    private static final int DANCERS_TEXT = 0, STEPS_TEXT = 1, BYTES_OF_DANCERS = 31, BYTES_OF_STEPS = 24;
    private static final int RIGHTWARD = 0, LEFTWARD = 1;
    private static final int OVER = 0, UNDER = 1, STAND = 2, TURN = 3;
    private static final int STUMBLES = 0, WRONG = 1, LETS_GO = 2, KINDS = 3;
    private static final int SHORTEST = 2, LONGEST = 30, LENGTH_AT_FIRST = 20;
    private static final int EVENT_SETS = 256, UNKNOWN = -1;
    private static final int SHEETS = 4, MOST_ITEMS = 60, LOST = -1, BYTES = 0, SHORTS = 1, INTS = 2;
    private static final int NULL = 1, INDEX = 2, CAST = 3, STORE = 4, SIZE = 5;
    private static final int LEAST_INT = 1 << 31;
    private static final long LEAST_LONG = 1L << 63;
    private static final int[] BEATS_OF_PLACES = {0, 6, 13, 23};
    private static final int[] BEATS_OF_PLANS = {3, 11, 23};

    private final Text[] texts;
    private final Events events;
    private final Setting told;
    private final Setting trial;
    private final Dance toldDance;
    private final Dance trialDance;
    private final Seen seen;
    private final Sheet[] sheets;
    private final int[] bareBeatsOfSet;
    private final int[] highByLength;
    private final int[] tally;
    private boolean danceIsKnown;
    private boolean lengthsAreKnown;
    private boolean setsAreCurrent;
    private int latestFinding;

    public MayPole() {
        texts = new Text[] {new Text(BYTES_OF_DANCERS), new Text(BYTES_OF_STEPS)};
        events = new Events();
        told = new Setting();
        trial = new Setting();
        toldDance = new Dance();
        trialDance = new Dance();
        seen = new Seen();
        sheets = new Sheet[] {new Sheet(), new Sheet(), new Sheet(), new Sheet()};
        bareBeatsOfSet = new int[EVENT_SETS];
        highByLength = new int[(LONGEST - SHORTEST + 1) * BEATS];
        tally = new int[MOST_ON + 1];
    }

    // ---- dancers, steps, ribbons, events

    public int type(int text, int b) {
        if (!isText(text) || b < 0 || b > 255) return BAD;
        Text t = texts[text];
        if (t.length >= t.limit) return FULL;
        t.bytes[t.length] = b;
        t.length++;
        takeText(text);
        return t.length;
    }

    public int wipe(int text) {
        if (!isText(text)) return BAD;
        int had = texts[text].length;
        texts[text].length = 0;
        takeText(text);
        return had;
    }

    public int undo(int text) {
        if (!isText(text)) return BAD;
        if (texts[text].length == 0) return NOT;
        texts[text].length--;
        takeText(text);
        return texts[text].length;
    }

    public int fault(int text) {
        return isText(text) ? texts[text].faultAt : BAD;
    }

    public int dancer(int dancer, int what) {
        if (!isDancer(dancer)) return BAD;
        switch (what) {
            case 0: return told.place[dancer];
            case 1: return told.way[dancer];
            case 2: return told.colour[dancer];
            default: return BAD;
        }
    }

    public int steps(int beat) {
        return isBeat(beat) ? told.step[beat] : BAD;
    }

    public int ribbons(int v) {
        if (v < SHORTEST || v > LONGEST) return BAD;
        int was = told.length;
        told.length = v;
        forgetOutcomes();
        return was;
    }

    public int event(int kind, int beat, int number) {
        if (!events.mayBe(kind, beat, number)) return BAD;
        if (events.many >= MOST_EVENTS) return FULL;
        events.put(kind, beat, number);
        takeEvents();
        return events.many;
    }

    public int back() {
        if (events.many == 0) return NOT;
        events.many--;
        takeEvents();
        return events.many;
    }

    public int read(int s) {
        if (!isSheet(s)) return BAD;
        Sheet from = sheets[s];
        if (from.form == LOST) return found(NULL);
        int came = 0;
        for (int i = 0; i + 3 <= from.size; i += 3) {
            if (event(from.items[i], from.items[i + 1], from.items[i + 2]) < 0) break;
            came++;
        }
        return came;
    }

    // ---- beats

    public int at(int beat, int dancer, int what) {
        if (!isBeat(beat) || !isDancer(dancer)) return BAD;
        Dance dance = danced();
        int i = beat * MOST_DANCERS + dancer;
        switch (what) {
            case 0: return dance.placeBehind[i];
            case 1: return dance.wayBehind[i];
            case 2: return dance.leftBehind[i];
            default: return BAD;
        }
    }

    public int high(int beat, int what) {
        if (!isBeat(beat) || !isEither(what)) return BAD;
        return what == 0 ? danced().onBehind[beat] : danced().metIn[beat];
    }

    public int weave(int i, int what) {
        if (i < 0 || i >= MOST_ON || what < 0 || what > 2) return BAD;
        Dance dance = danced();
        if (i >= dance.on) return NONE;
        switch (what) {
            case 0: return dance.overs[i];
            case 1: return dance.unders[i];
            default: return dance.wovenIn[i];
        }
    }

    public int shows(int colour) {
        if (colour < 0 || colour >= COLOURS) return BAD;
        Dance dance = danced();
        int many = 0;
        for (int i = 0; i < dance.on; i++) {
            if (told.colour[dance.overs[i]] == colour) many++;
        }
        return many;
    }

    public int sum(int what) {
        switch (what) {
            case 0: return danced().allMet();
            case 1: return danced().woven;
            case 2: return danced().unwound;
            default: return BAD;
        }
    }

    public int run(int what) {
        return isEither(what) ? danced().longestRun(told.colour, what) : BAD;
    }

    public int bare() {
        Dance dance = danced();
        for (int beat = LAST_BEAT; beat >= 0; beat--) {
            if (dance.onBehind[beat] == 0) return beat;
        }
        return NONE;
    }

    public int top() {
        Dance dance = danced();
        int who = NONE, most = 0;
        for (int d = 0; d < told.dancers; d++) {
            int many = dance.timesOver(d);
            if (many > most) {
                most = many;
                who = d;
            }
        }
        return who;
    }

    public int lacks() {
        Dance dance = danced();
        int bits = 0;
        for (int d = 0; d < told.dancers; d++) {
            if (dance.left[d] == 0) bits |= 1 << d;
        }
        return bits;
    }

    // ---- plans

    public int step(int beat, int what) {
        if (!isBeat(beat) || !isEither(what)) return BAD;
        trial.become(told);
        int which = NONE, most = NONE;
        for (int s = OVER; s <= TURN; s++) {
            trial.step[beat] = s;
            trialDance.play(trial, events);
            if (trialDance.on > most) {
                most = trialDance.on;
                which = s;
            }
        }
        return what == 0 ? which : most;
    }

    public int begin(int dancer, int what) {
        if (!isDancer(dancer) || !isEither(what)) return BAD;
        int others = told.placesBeside(dancer);
        trial.become(told);
        int which = NONE, most = NONE;
        for (int place = 0; place < PLACES; place++) {
            if (has(others, place)) continue;
            trial.place[dancer] = place;
            trialDance.play(trial, events);
            if (trialDance.on > most) {
                most = trialDance.on;
                which = place;
            }
        }
        return what == 0 ? which : most;
    }

    public int dress(int dancer, int what) {
        if (!isDancer(dancer) || !isEither(what)) return BAD;
        // Colours change nothing of who goes where, so the told dance serves for every colour.
        Dance dance = danced();
        trial.become(told);
        int which = NONE, least = MOST_ON + 1;
        for (int colour = 0; colour < COLOURS; colour++) {
            trial.colour[dancer] = colour;
            int longest = dance.longestRun(trial.colour, 0);
            if (longest < least) {
                least = longest;
                which = colour;
            }
        }
        return what == 0 ? which : least;
    }

    public int spare(int i) {
        if (i < NONE || i > 1) return BAD;
        int all = told.eventSet;
        if (has(bareBeatsWith(all), LAST_BEAT)) return i == NONE ? 0 : NONE;
        for (int a = 0; a < events.many; a++) {
            int rest = all & ~(1 << a);
            if (has(bareBeatsWith(rest), LAST_BEAT)) return i == NONE ? 1 : i == 0 ? a : NONE;
        }
        for (int a = 0; a < events.many; a++) {
            for (int b = a + 1; b < events.many; b++) {
                int rest = all & ~(1 << a) & ~(1 << b);
                if (has(bareBeatsWith(rest), LAST_BEAT)) return i == NONE ? 2 : i == 0 ? a : b;
            }
        }
        return NONE;
    }

    // ---- seen, chance, dances

    public int seen(int beat, int many) {
        if (!isBeat(beat) || many < 0 || many > MOST_ON) return BAD;
        if (seen.many >= MOST_SEEN) return FULL;
        seen.put(beat, many);
        return seen.many;
    }

    public int forget() {
        int had = seen.many;
        seen.many = 0;
        return had;
    }

    public int never() {
        trial.become(told);
        int bits = 0;
        for (int e = 0; e < events.many; e++) {
            trial.eventSet = told.eventSet & ~(1 << e);
            trialDance.play(trial, events);
            if (seen.comesOut(trialDance.onBehind, 0)) bits |= 1 << e;
        }
        return bits;
    }

    public int ways(int dancer) {
        if (!isDancer(dancer)) return BAD;
        trial.become(told);
        int bits = 0;
        for (int way = RIGHTWARD; way <= LEFTWARD; way++) {
            trial.way[dancer] = way;
            trialDance.play(trial, events);
            if (seen.comesOut(trialDance.onBehind, 0)) bits |= 1 << way;
        }
        return bits;
    }

    public int lengths() {
        trial.become(told);
        int bits = 0;
        for (int v = SHORTEST; v <= LONGEST; v++) {
            if (!lengthsAreKnown) {
                trial.length = v;
                trialDance.play(trial, events);
                System.arraycopy(trialDance.onBehind, 0, highByLength, rowOfLength(v), BEATS);
            }
            if (seen.comesOut(highByLength, rowOfLength(v))) bits |= 1 << v;
        }
        lengthsAreKnown = true;
        return bits;
    }

    public int ask() {
        int likely = lengths();
        int which = NONE, least = LONGEST + 1;
        for (int beat = 0; beat < BEATS; beat++) {
            int many = greatestGroup(likely, beat);
            if (many < least) {
                least = many;
                which = beat;
            }
        }
        return which;
    }

    public long chance(int c, int beat, int what) {
        if (c < 0 || c > 16 || !isBeat(beat) || !isEither(what)) return LEAST_LONG - BAD;
        long above = 0, below = 1;
        for (int e = 0; e < events.many; e++) below *= 16;
        for (int set = 0; set <= told.eventSet; set++) {
            long weight = weightOf(set, c);
            // A set that never is need not be danced.
            if (weight != 0 && has(bareBeatsWith(set), beat)) above += weight;
        }
        long common = greatestDivisor(above, below);
        if (common == 0) return 0;
        return what == 0 ? above / common : below / common;
    }

    public int dances(int seed, int n, int what) {
        if (n < 0 || n > BEATS || !isEither(what)) return BAD;
        trial.become(told);
        int lot = seed;
        for (int beat = 0; beat < BEATS; beat++) {
            lot = 1103515245 * lot + 12345;
            trial.step[beat] = beat < n ? (lot >>> 16) % 4 : STAND;
        }
        trialDance.play(trial, events);
        return what == 0 ? trialDance.on : trialDance.unwound;
    }

    // ---- sheets

    public int sheet(int s, int form, int n) {
        if (!isSheet(s) || !isForm(form) || n > MOST_ITEMS) return BAD;
        if (n < 0) return found(SIZE);
        sheets[s].form = form;
        sheets[s].size = n;
        Arrays.fill(sheets[s].items, 0);
        return n;
    }

    public int lose(int s) {
        if (!isSheet(s)) return BAD;
        if (sheets[s].form == LOST) return found(NULL);
        sheets[s].form = LOST;
        return sheets[s].size;
    }

    public int lay(int s, int form, int i, int v) {
        if (!isSheet(s) || !isForm(form)) return BAD;
        int finding = findingOf(s, form, i);
        if (finding != 0) return found(finding);
        sheets[s].put(i, v);
        return 1;
    }

    public int get(int s, int form, int i) {
        if (!isSheet(s) || !isForm(form)) return LEAST_INT;
        int finding = findingOf(s, form, i);
        if (finding != 0) {
            latestFinding = finding;
            return LEAST_INT;
        }
        return sheets[s].items[i];
    }

    public int copy(int s, int i, int t, int j, int n) {
        if (!isSheet(s) || !isSheet(t)) return BAD;
        Sheet from = sheets[s], to = sheets[t];
        if (from.form == LOST || to.form == LOST) return found(NULL);
        if (from.form != to.form) return found(STORE);
        if (!from.holds(i, n) || !to.holds(j, n)) return found(INDEX);
        System.arraycopy(from.items, i, to.items, j, n);
        return 1;
    }

    public int write(int s) {
        if (!isSheet(s)) return BAD;
        if (sheets[s].form == LOST) return found(NULL);
        Dance dance = danced();
        int many = Math.min(sheets[s].size, dance.on);
        for (int i = 0; i < many; i++) sheets[s].put(i, told.colour[dance.overs[i]]);
        return many;
    }

    public int count(int what) {
        switch (what) {
            case 0: return told.dancers;
            case 1: return texts[STEPS_TEXT].faultAt == NONE ? texts[STEPS_TEXT].length : 0;
            case 2: return texts[DANCERS_TEXT].length + texts[STEPS_TEXT].length;
            case 3: return events.many;
            case 4: return danced().on;
            case 5: return told.length;
            case 6: return told.dancers - Integer.bitCount(danced().holding);
            case 7: return seen.many;
            case 8: return latestFinding;
            default: return BAD;
        }
    }

    public long digest() {
        long h = 17;
        for (int what = 0; what <= 7; what++) h = 31 * h + count(what);
        for (int text = DANCERS_TEXT; text <= STEPS_TEXT; text++) h = 31 * h + fault(text);
        h = digestOfBeats(h);
        for (int d = 0; d < told.dancers; d++) h = digestOfDancer(h, d);
        for (int beat : BEATS_OF_PLANS) {
            h = 31 * h + step(beat, 0);
            h = 31 * h + step(beat, 1);
            h = 31 * h + chance(5, beat, 0);
            h = 31 * h + chance(5, beat, 1);
        }
        for (int what = 0; what <= 2; what++) h = 31 * h + sum(what);
        h = 31 * h + run(0);
        h = 31 * h + run(1);
        h = 31 * h + bare();
        h = 31 * h + top();
        h = 31 * h + lacks();
        h = 31 * h + spare(NONE);
        h = 31 * h + spare(0);
        h = 31 * h + never();
        h = 31 * h + lengths();
        h = 31 * h + ask();
        h = 31 * h + dances(7, 18, 0);
        return 31 * h + dances(7, 18, 1);
    }

    private long digestOfBeats(long before) {
        long h = before;
        for (int beat = 0; beat < BEATS; beat++) {
            h = 31 * h + steps(beat);
            h = 31 * h + high(beat, 0);
            h = 31 * h + high(beat, 1);
        }
        for (int i = 0; i < BEATS; i++) {
            for (int what = 0; what <= 2; what++) h = 31 * h + weave(i, what);
        }
        for (int colour = 0; colour < COLOURS; colour++) h = 31 * h + shows(colour);
        return h;
    }

    private long digestOfDancer(long before, int d) {
        long h = before;
        for (int what = 0; what <= 2; what++) h = 31 * h + dancer(d, what);
        for (int beat : BEATS_OF_PLACES) {
            for (int what = 0; what <= 2; what++) h = 31 * h + at(beat, d, what);
        }
        h = 31 * h + begin(d, 0);
        h = 31 * h + begin(d, 1);
        h = 31 * h + dress(d, 0);
        h = 31 * h + dress(d, 1);
        return 31 * h + ways(d);
    }

    // ---- what is told

    private void takeText(int text) {
        if (text == DANCERS_TEXT) texts[text].faultAt = told.takeDancers(texts[text]);
        else texts[text].faultAt = told.takeSteps(texts[text]);
        forgetOutcomes();
    }

    private void takeEvents() {
        told.eventSet = (1 << events.many) - 1;
        forgetOutcomes();
    }

    private void forgetOutcomes() {
        danceIsKnown = false;
        lengthsAreKnown = false;
        setsAreCurrent = false;
    }

    // ---- what comes of it

    private Dance danced() {
        if (!danceIsKnown) {
            toldDance.play(told, events);
            danceIsKnown = true;
        }
        return toldDance;
    }

    /** The BEATS behind which none is on, as bits, if just these EVENTS are. */
    private int bareBeatsWith(int set) {
        if (set < 0 || set >= EVENT_SETS) return 0;
        if (!setsAreCurrent) {
            Arrays.fill(bareBeatsOfSet, UNKNOWN);
            setsAreCurrent = true;
        }
        if (bareBeatsOfSet[set] == UNKNOWN) {
            trial.become(told);
            trial.eventSet = set;
            trialDance.play(trial, events);
            bareBeatsOfSet[set] = trialDance.bareBeats();
        }
        return bareBeatsOfSet[set];
    }

    /** How often the set is, of 16 to the power of the number of EVENTS. */
    private long weightOf(int set, int c) {
        long weight = 1;
        for (int e = 0; e < events.many; e++) weight *= has(set, e) ? c : 16 - c;
        return weight;
    }

    private int greatestGroup(int likely, int beat) {
        Arrays.fill(tally, 0);
        int most = 0;
        for (int v = SHORTEST; v <= LONGEST; v++) {
            if (!has(likely, v)) continue;
            int on = highByLength[rowOfLength(v) + beat];
            tally[on]++;
            most = Math.max(most, tally[on]);
        }
        return most;
    }

    private int found(int finding) {
        latestFinding = finding;
        return -10 - finding;
    }

    private int findingOf(int s, int form, int i) {
        Sheet sheet = sheets[s];
        if (sheet.form == LOST) return NULL;
        if (sheet.form != form) return CAST;
        return sheet.holds(i, 1) ? 0 : INDEX;
    }

    private boolean isDancer(int dancer) {
        return dancer >= 0 && dancer < told.dancers;
    }

    private static boolean isText(int text) {
        return text == DANCERS_TEXT || text == STEPS_TEXT;
    }

    private static boolean isBeat(int beat) {
        return beat >= 0 && beat < BEATS;
    }

    private static boolean isEither(int what) {
        return what == 0 || what == 1;
    }

    private static boolean isSheet(int s) {
        return s >= 0 && s < SHEETS;
    }

    private static boolean isForm(int form) {
        return form >= BYTES && form <= INTS;
    }

    private static boolean has(int bits, int i) {
        return (bits >> i & 1) != 0;
    }

    private static int rowOfLength(int v) {
        return (v - SHORTEST) * BEATS;
    }

    private static long greatestDivisor(long a, long b) {
        long x = a, y = b;
        // Two turns make y less than half of what it was, so a long needs fewer than these.
        for (int turn = 0; turn < 200 && y != 0; turn++) {
            long rest = x % y;
            x = y;
            y = rest;
        }
        return x;
    }

    private static final class Text {
        private final int limit;
        private final int[] bytes = new int[BYTES_OF_DANCERS];
        private int length;
        private int faultAt = NONE;

        private Text(int limit) {
            this.limit = Math.min(limit, BYTES_OF_DANCERS);
        }
    }

    private static final class Events {
        private final int[] kinds = new int[MOST_EVENTS];
        private final int[] beats = new int[MOST_EVENTS];
        private final int[] numbers = new int[MOST_EVENTS];
        private int many;

        private boolean mayBe(int kind, int beat, int number) {
            return kind >= STUMBLES && kind <= LETS_GO && isBeat(beat) && number >= 0 && number < MOST_DANCERS;
        }

        private void put(int kind, int beat, int number) {
            kinds[many] = kind;
            beats[many] = beat;
            numbers[many] = number;
            many++;
        }
    }

    private static final class Seen {
        private final int[] beats = new int[MOST_SEEN];
        private final int[] ons = new int[MOST_SEEN];
        private int many;

        private void put(int beat, int on) {
            beats[many] = beat;
            ons[many] = on;
            many++;
        }

        private boolean comesOut(int[] onBehind, int from) {
            for (int i = 0; i < many; i++) {
                if (onBehind[from + beats[i]] != ons[i]) return false;
            }
            return true;
        }
    }

    /** All that a dance comes from, but for the list of EVENTS; a plan alters a copy of what is told. */
    private static final class Setting {
        private final int[] place = new int[MOST_DANCERS];
        private final int[] way = new int[MOST_DANCERS];
        private final int[] colour = new int[MOST_DANCERS];
        private final int[] step = new int[BEATS];
        private int dancers;
        private int length = LENGTH_AT_FIRST;
        private int eventSet;

        private Setting() {
            Arrays.fill(step, STAND);
        }

        private void become(Setting other) {
            System.arraycopy(other.place, 0, place, 0, MOST_DANCERS);
            System.arraycopy(other.way, 0, way, 0, MOST_DANCERS);
            System.arraycopy(other.colour, 0, colour, 0, MOST_DANCERS);
            System.arraycopy(other.step, 0, step, 0, BEATS);
            dancers = other.dancers;
            length = other.length;
            eventSet = other.eventSet;
        }

        /** Takes DANCERS from their text, none if it has a FAULT; answers the FAULT. */
        private int takeDancers(Text text) {
            dancers = 0;
            int taken = 0;
            for (int i = 0; i < text.length; i++) {
                int d = i / 4, b = text.bytes[i];
                if (d >= MOST_DANCERS || !goesOn(i % 4, b, taken)) return i;
                switch (i % 4) {
                    case 0:
                        place[d] = b - 'a';
                        taken |= 1 << place[d];
                        break;
                    case 1:
                        way[d] = b == 'r' ? RIGHTWARD : LEFTWARD;
                        break;
                    case 2:
                        colour[d] = b - '0';
                        break;
                    default:
                        break;
                }
            }
            if (text.length > 0 && text.length % 4 != 3) return text.length;
            dancers = (text.length + 1) / 4;
            return NONE;
        }

        private static boolean goesOn(int part, int b, int taken) {
            switch (part) {
                case 0: return b >= 'a' && b <= 'l' && !has(taken, b - 'a');
                case 1: return b == 'r' || b == 'l';
                case 2: return b >= '0' && b <= '9';
                default: return b == ';';
            }
        }

        /** Takes STEPS from their text, none if it has a FAULT; answers the FAULT. */
        private int takeSteps(Text text) {
            Arrays.fill(step, STAND);
            for (int beat = 0; beat < text.length && beat < BEATS; beat++) {
                int s = stepOf(text.bytes[beat]);
                if (s == NONE) {
                    Arrays.fill(step, STAND);
                    return beat;
                }
                step[beat] = s;
            }
            return NONE;
        }

        private static int stepOf(int b) {
            switch (b) {
                case 'o': return OVER;
                case 'u': return UNDER;
                case 's': return STAND;
                case 't': return TURN;
                default: return NONE;
            }
        }

        private int placesBeside(int dancer) {
            int bits = 0;
            for (int d = 0; d < dancers; d++) {
                if (d != dancer) bits |= 1 << place[d];
            }
            return bits;
        }
    }

    /** One dance through all BEATS, and what is known behind each of them. */
    private static final class Dance {
        private final int[] doers = new int[KINDS * BEATS];
        private final int[] place = new int[MOST_DANCERS];
        private final int[] before = new int[MOST_DANCERS];
        private final int[] way = new int[MOST_DANCERS];
        private final int[] left = new int[MOST_DANCERS];
        private final int[] placeBehind = new int[BEATS * MOST_DANCERS];
        private final int[] wayBehind = new int[BEATS * MOST_DANCERS];
        private final int[] leftBehind = new int[BEATS * MOST_DANCERS];
        private final int[] onBehind = new int[BEATS];
        private final int[] metIn = new int[BEATS];
        private final int[] overs = new int[MOST_ON];
        private final int[] unders = new int[MOST_ON];
        private final int[] wovenIn = new int[MOST_ON];
        private final int[] waysOfOvers = new int[MOST_ON];
        private int dancers, holding;
        private int on, woven, unwound;

        private void play(Setting setting, Events events) {
            stand(setting);
            spread(events, setting.eventSet);
            for (int beat = 0; beat < BEATS; beat++) {
                int step = setting.step[beat];
                metIn[beat] = 0;
                holding &= ~doers[LETS_GO * BEATS + beat];
                if (step == TURN) turn();
                if (step == OVER || step == UNDER) {
                    goOn(beat);
                    meetAll(beat, step);
                }
                note(beat);
            }
        }

        private void stand(Setting setting) {
            dancers = setting.dancers;
            holding = (1 << dancers) - 1;
            System.arraycopy(setting.place, 0, place, 0, MOST_DANCERS);
            System.arraycopy(setting.way, 0, way, 0, MOST_DANCERS);
            Arrays.fill(left, setting.length);
            on = 0;
            woven = 0;
            unwound = 0;
        }

        /** Tells for each kind and BEAT who does it, as bits, so that no BEAT looks through all EVENTS. */
        private void spread(Events events, int set) {
            Arrays.fill(doers, 0);
            for (int e = 0; e < events.many; e++) {
                if (has(set, e)) doers[events.kinds[e] * BEATS + events.beats[e]] |= 1 << events.numbers[e];
            }
        }

        private void turn() {
            for (int d = 0; d < dancers; d++) way[d] = way[d] == RIGHTWARD ? LEFTWARD : RIGHTWARD;
        }

        private void goOn(int beat) {
            int stumblers = doers[STUMBLES * BEATS + beat];
            for (int d = 0; d < dancers; d++) {
                before[d] = place[d];
                if (has(stumblers, d) || left[d] == 0 && has(holding, d)) continue;
                if (way[d] == RIGHTWARD) place[d] = place[d] == PLACES - 1 ? 0 : place[d] + 1;
                else place[d] = place[d] == 0 ? PLACES - 1 : place[d] - 1;
            }
        }

        private void meetAll(int beat, int step) {
            for (int a = 0; a < dancers; a++) {
                for (int b = a + 1; b < dancers; b++) {
                    if (way[a] == way[b] || !haveMet(a, b)) continue;
                    metIn[beat]++;
                    if (has(holding, a) && has(holding, b)) cross(a, b, beat, step);
                }
            }
        }

        private boolean haveMet(int a, int b) {
            if (before[a] == before[b]) return false;
            return place[a] == place[b] || place[a] == before[b] && place[b] == before[a];
        }

        private void cross(int a, int b, int beat, int step) {
            int wrong = doers[WRONG * BEATS + beat];
            boolean oneWrong = ((wrong >> a ^ wrong >> b) & 1) != 0;
            boolean rightwardOver = (step == OVER) != oneWrong;
            int over = (way[a] == RIGHTWARD) == rightwardOver ? a : b;
            int under = over == a ? b : a;
            int last = on - 1;
            if (last >= 0 && overs[last] == over && unders[last] == under && waysOfOvers[last] != way[over]) {
                on--;
                unwound++;
                left[over]++;
                left[under]++;
            } else if (left[over] > 0 && left[under] > 0 && on < MOST_ON) {
                overs[on] = over;
                unders[on] = under;
                wovenIn[on] = beat;
                waysOfOvers[on] = way[over];
                on++;
                woven++;
                left[over]--;
                left[under]--;
            }
        }

        private void note(int beat) {
            onBehind[beat] = on;
            int from = beat * MOST_DANCERS;
            System.arraycopy(place, 0, placeBehind, from, MOST_DANCERS);
            System.arraycopy(way, 0, wayBehind, from, MOST_DANCERS);
            System.arraycopy(left, 0, leftBehind, from, MOST_DANCERS);
        }

        private int allMet() {
            int many = 0;
            for (int beat = 0; beat < BEATS; beat++) many += metIn[beat];
            return many;
        }

        private int bareBeats() {
            int bits = 0;
            for (int beat = 0; beat < BEATS; beat++) {
                if (onBehind[beat] == 0) bits |= 1 << beat;
            }
            return bits;
        }

        private int timesOver(int dancer) {
            int many = 0;
            for (int i = 0; i < on; i++) {
                if (overs[i] == dancer) many++;
            }
            return many;
        }

        /** RUN in these COLOURS: how many (what = 0), or the first of them. */
        private int longestRun(int[] colour, int what) {
            int most = 0, first = NONE, begun = 0;
            for (int i = 0; i < on; i++) {
                if (colour[overs[i]] != colour[overs[begun]]) begun = i;
                if (i - begun + 1 > most) {
                    most = i - begun + 1;
                    first = begun;
                }
            }
            return what == 0 ? most : first;
        }
    }

    private static final class Sheet {
        private final int[] items = new int[MOST_ITEMS];
        private int form = LOST;
        private int size;

        private boolean holds(int from, int many) {
            return from >= 0 && many >= 0 && from <= size && many <= size - from;
        }

        private void put(int i, int v) {
            items[i] = form == BYTES ? (byte) v : form == SHORTS ? (short) v : v;
        }
    }
}
