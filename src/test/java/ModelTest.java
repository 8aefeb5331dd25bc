import java.util.ArrayList;
import java.util.Arrays;
import java.util.List;
import java.util.Random;

/**
 * Long runs of calls, made by a seed, on LessonSpiral and on a model beside it that follows the
 * document word by word and goes through all plans without any short cut.
 */
public final class ModelTest extends Check {
    private static final int RUNS = 600;

    /** With the calls that look at the whole state behind a run these stay under 512. */
    private static final int CALLS_MOST = 420;

    static final class Topic {
        int kind;
        int hours;
        boolean[] needs = new boolean[8];
        int comes;
        int standards;
        int partner = -1;
        int first = -1;
        int second = -1;
        int taught;

        Topic copy() {
            Topic c = new Topic();
            c.kind = kind;
            c.hours = hours;
            c.needs = needs.clone();
            c.comes = comes;
            c.standards = standards;
            c.partner = partner;
            c.first = first;
            c.second = second;
            c.taught = taught;
            return c;
        }

        boolean strand() {
            return kind == 2;
        }
    }

    static final class State {
        List<Topic> topics = new ArrayList<>();
        int[] rooms = {10, 10, 10, 10, 10, 10};
        boolean[] snow = new boolean[6];
        int test = 6;

        State copy() {
            State c = new State();
            for (Topic t : topics) {
                c.topics.add(t.copy());
            }
            c.rooms = rooms.clone();
            c.snow = snow.clone();
            c.test = test;
            return c;
        }

        int load(int w) {
            int sum = 0;
            for (Topic t : topics) {
                if (t.strand()) {
                    sum += snow[w] ? 0 : 1;
                } else {
                    sum += (t.first == w ? t.hours : 0) + (t.second == w ? 1 : 0);
                }
            }
            return sum;
        }

        int evenness() {
            int sum = 0;
            for (int w = 0; w < 6; w++) {
                sum += load(w) * load(w);
            }
            return sum;
        }

        boolean breaks(int law, Topic t) {
            switch (law) {
                case 1:
                    return t.first == -1;
                case 2:
                    return snow[t.first];
                case 3:
                    for (int o = 0; o < topics.size(); o++) {
                        Topic other = topics.get(o);
                        if (t.needs[o] && !other.strand() && !(other.first < t.first)) {
                            return true;
                        }
                    }
                    return false;
                case 4:
                    if (t.comes == 0) {
                        return t.second != -1;
                    }
                    return t.second == -1 || snow[t.second] || t.second - t.first < 1 || t.second - t.first > t.comes;
                default:
                    if ((t.kind == 1 || t.kind == 3) && (t.first >= test || t.second != -1 && t.second >= test)) {
                        return true;
                    }
                    return t.kind == 3 && t.partner != -1 && !topics.get(t.partner).strand()
                        && topics.get(t.partner).first != t.first;
            }
        }

        int fault() {
            for (int law = 1; law <= 5; law++) {
                for (int t = 0; t < topics.size(); t++) {
                    if (!topics.get(t).strand() && breaks(law, topics.get(t))) {
                        return 100 * law + t;
                    }
                }
            }
            for (int w = 0; w < 6; w++) {
                if (snow[w] && load(w) != 0) {
                    return 600 + w;
                }
            }
            for (int w = 0; w < 6; w++) {
                if (load(w) > rooms[w]) {
                    return 700 + w;
                }
            }
            return 0;
        }

        int own() {
            int n = 0;
            for (Topic t : topics) {
                n += t.strand() ? 0 : 1;
            }
            return n;
        }

        boolean needed(int by, int t, int steps) {
            for (int o = 0; o < topics.size() && steps > 0; o++) {
                if (topics.get(by).needs[o] && (o == t || needed(o, t, steps - 1))) {
                    return true;
                }
            }
            return false;
        }

        int due(Topic t, int week) {
            int sum = 0;
            for (int w = 0; w <= week; w++) {
                if (t.strand()) {
                    sum += snow[w] ? 0 : 1;
                } else {
                    sum += (t.first == w ? t.hours : 0) + (t.second == w ? 1 : 0);
                }
            }
            return sum;
        }
    }

    static final class Model {
        State now = new State();
        final List<State> kept = new ArrayList<>();
        final int[][] sheets = new int[4][];
        final int[] bits = new int[4];
        int findings;

        private int plans;
        private State best;
        private State least;
        private int bestEven;
        private int leastMoves;
        private int leastEven;

        int call(int which, int[] a) {
            int answer = act(which, a);
            if (answer < -99999) {
                findings++;
            }
            return answer;
        }

        private boolean isTopic(int t) {
            return t >= 0 && t < now.topics.size();
        }

        private static boolean in(int v, int low, int high) {
            return low <= v && v <= high;
        }

        private void keep() {
            kept.add(now.copy());
            if (kept.size() > 25) {
                kept.remove(0);
            }
        }

        private int act(int which, int[] a) {
            if (which <= 6) {
                return topics(which, a);
            }
            if (which <= 9) {
                return weeks(which, a);
            }
            if (which <= 13) {
                return sheets(which, a);
            }
            return which <= 21 ? plan(which, a) : pupils(which, a);
        }

        private int topics(int which, int[] a) {
            if (which == 0) {
                if (!in(a[0], 0, 3) || !in(a[1], 1, 9)) {
                    return BEYOND;
                }
                if (now.topics.size() == 8) {
                    return FULL;
                }
                keep();
                Topic t = new Topic();
                t.kind = a[0];
                t.hours = a[1];
                now.topics.add(t);
                return now.topics.size() - 1;
            }
            if (!isTopic(a[0])) {
                return BEYOND;
            }
            Topic t = now.topics.get(a[0]);
            int old;
            switch (which) {
                case 1:
                    if (!in(a[1], 0, 3)) {
                        return BEYOND;
                    }
                    int[][] over = {{0}, {1, 0}, {2, 0}, {3, 1, 0}};
                    return Arrays.stream(over[t.kind]).anyMatch(k -> k == a[1]) ? a[0] : KIND;
                case 2:
                    return need(t, a);
                case 3:
                    if (!in(a[1], 0, 9)) {
                        return BEYOND;
                    }
                    if (t.strand()) {
                        return KIND;
                    }
                    keep();
                    old = t.comes;
                    t.comes = a[1];
                    return old;
                case 4:
                    if (!in(a[1], 0, 65535)) {
                        return BEYOND;
                    }
                    keep();
                    old = t.standards;
                    t.standards = a[1];
                    return old;
                case 5:
                    if (a[1] != -1 && !isTopic(a[1])) {
                        return BEYOND;
                    }
                    if (t.kind != 3) {
                        return KIND;
                    }
                    if (a[0] == a[1]) {
                        return SIZE;
                    }
                    keep();
                    old = t.partner;
                    t.partner = a[1];
                    return old;
                default:
                    return of(t, a[1]);
            }
        }

        private int need(Topic t, int[] a) {
            if (!isTopic(a[1])) {
                return BEYOND;
            }
            boolean on = a[2] == 1;
            if (on && (a[0] == a[1] || now.needed(a[1], a[0], 8))) {
                return RING;
            }
            keep();
            boolean isNew = t.needs[a[1]] != on;
            t.needs[a[1]] = on;
            return isNew ? 1 : 0;
        }

        private static int of(Topic t, int what) {
            int needs = 0;
            for (int o = 0; o < 8; o++) {
                needs += t.needs[o] ? 1 << o : 0;
            }
            int[] all = {t.kind, t.hours, needs, t.comes, t.standards, t.first, t.second, t.taught};
            return in(what, 0, 7) ? all[what] : BEYOND;
        }

        private int weeks(int which, int[] a) {
            int old;
            if (which == 9) {
                if (!in(a[0], 0, 6)) {
                    return BEYOND;
                }
                keep();
                old = now.test;
                now.test = a[0];
                return old;
            }
            if (!in(a[0], 0, 5) || which == 7 && !in(a[1], 0, 40)) {
                return BEYOND;
            }
            keep();
            if (which == 7) {
                old = now.rooms[a[0]];
                now.rooms[a[0]] = a[1];
                return old;
            }
            boolean was = now.snow[a[0]];
            now.snow[a[0]] = a[1] == 1;
            return was == (a[1] == 1) ? 0 : 1;
        }

        private int sheets(int which, int[] a) {
            int s = a[0];
            if (!in(s, 0, 3)) {
                return BEYOND;
            }
            switch (which) {
                case 10:
                    if (a[1] != 0 && a[1] != 8 && a[1] != 16 && a[1] != 32) {
                        return BEYOND;
                    }
                    if (a[2] < 0) {
                        return SIZE;
                    }
                    if (a[2] > 6) {
                        return BEYOND;
                    }
                    bits[s] = a[1];
                    sheets[s] = a[1] == 0 ? null : new int[a[2]];
                    return a[1] == 0 ? 0 : a[2];
                case 11:
                    if (sheets[s] == null) {
                        return MISSING;
                    }
                    if (!in(a[1], 0, sheets[s].length - 1)) {
                        return BEYOND;
                    }
                    int shift = 32 - bits[s];
                    sheets[s][a[1]] = a[2] << shift >> shift;
                    return 0;
                case 12:
                    return copy(a);
                default:
                    return read(s);
            }
        }

        private int copy(int[] a) {
            if (!in(a[2], 0, 3)) {
                return BEYOND;
            }
            int[] from = sheets[a[0]];
            int[] to = sheets[a[2]];
            if (from == null || to == null) {
                return MISSING;
            }
            if (bits[a[0]] != bits[a[2]]) {
                return KIND;
            }
            long n = a[4];
            if (a[1] < 0 || a[3] < 0 || n < 0 || a[1] + n > from.length || a[3] + n > to.length) {
                return BEYOND;
            }
            int[] old = from.clone();
            for (int i = 0; i < n; i++) {
                to[a[3] + i] = old[a[1] + i];
            }
            return a[4];
        }

        private int read(int s) {
            if (sheets[s] == null) {
                return MISSING;
            }
            if (Arrays.stream(sheets[s]).anyMatch(v -> v > 40)) {
                return BEYOND;
            }
            keep();
            for (int w = 0; w < sheets[s].length; w++) {
                now.snow[w] = sheets[s][w] < 0;
                if (!now.snow[w]) {
                    now.rooms[w] = sheets[s][w];
                }
            }
            return sheets[s].length;
        }

        private int plan(int which, int[] a) {
            switch (which) {
                case 14:
                case 15:
                    if (!isTopic(a[0]) || !in(a[1], -1, 5)) {
                        return BEYOND;
                    }
                    Topic t = now.topics.get(a[0]);
                    if (t.strand()) {
                        return KIND;
                    }
                    keep();
                    int old = which == 14 ? t.first : t.second;
                    if (which == 14) {
                        t.first = a[1];
                    } else {
                        t.second = a[1];
                    }
                    return old;
                case 16:
                    return now.fault();
                case 17:
                    return in(a[0], 0, 5) ? now.load(a[0]) : BEYOND;
                case 18:
                    return now.evenness();
                default:
                    return seek(which, a[0] == 1);
            }
        }

        private int seek(int which, boolean take) {
            if (now.own() > 4) {
                return LONG;
            }
            plans = 0;
            best = null;
            least = null;
            goThrough(now.copy(), 0);
            if (which == 20) {
                return plans;
            }
            if (plans == 0) {
                return NONE;
            }
            int answer = which == 19 ? bestEven : leastMoves;
            if (take) {
                keep();
                now = which == 19 ? best : least;
            }
            return answer;
        }

        private void goThrough(State s, int t) {
            if (t == s.topics.size()) {
                if (s.fault() == 0) {
                    weigh(s);
                }
                return;
            }
            Topic topic = s.topics.get(t);
            if (topic.strand()) {
                goThrough(s, t + 1);
                return;
            }
            for (int first = 0; first < 6; first++) {
                for (int second = topic.comes == 0 ? -1 : 0; second < (topic.comes == 0 ? 0 : 6); second++) {
                    topic.first = first;
                    topic.second = second;
                    goThrough(s, t + 1);
                }
            }
        }

        private void weigh(State s) {
            plans++;
            int even = s.evenness();
            int moves = 0;
            for (int t = 0; t < s.topics.size(); t++) {
                moves += s.topics.get(t).first != now.topics.get(t).first ? 1 : 0;
                moves += s.topics.get(t).second != now.topics.get(t).second ? 1 : 0;
            }
            if (best == null || even < bestEven) {
                best = s.copy();
                bestEven = even;
            }
            if (least == null || moves < leastMoves || moves == leastMoves && even < leastEven) {
                least = s.copy();
                leastMoves = moves;
                leastEven = even;
            }
        }

        private int pupils(int which, int[] a) {
            switch (which) {
                case 22:
                    return in(a[0], 0, 5) ? late(a[0], a[1] == 1) : BEYOND;
                case 23:
                    int set = 0;
                    for (Topic t : now.topics) {
                        set |= t.strand() || t.first != -1 ? t.standards : 0;
                    }
                    return a[0] == 1 ? 65535 - set : set;
                case 24:
                    return in(a[0], 0, 15) ? only(a[0]) : BEYOND;
                case 25:
                    if (!isTopic(a[0]) || !in(a[1], 1, 100)) {
                        return BEYOND;
                    }
                    Topic t = now.topics.get(a[0]);
                    if (t.taught + a[1] > 1000) {
                        return FULL;
                    }
                    keep();
                    t.taught += a[1];
                    return t.taught;
                case 26:
                    return isTopic(a[0]) && in(a[1], 0, 5) ? now.due(now.topics.get(a[0]), a[1]) : BEYOND;
                case 27:
                    return in(a[0], 0, 5) ? drift(a[0]) : BEYOND;
                case 28:
                    if (kept.isEmpty()) {
                        return NONE;
                    }
                    now = kept.remove(kept.size() - 1);
                    return kept.size();
                default:
                    return told(a[0]);
            }
        }

        private int late(int week, boolean hours) {
            int set = 0;
            int sum = 0;
            for (int t = 0; t < now.topics.size(); t++) {
                Topic topic = now.topics.get(t);
                boolean must = false;
                for (int by = 0; by < now.topics.size(); by++) {
                    must |= now.topics.get(by).first >= week && now.needed(by, t, 8);
                }
                if (must && topic.first != -1 && topic.first < week) {
                    set |= 1 << t;
                    sum += topic.hours;
                }
            }
            return hours ? sum : set;
        }

        private int only(int standard) {
            List<Integer> found = new ArrayList<>();
            for (int t = 0; t < now.topics.size(); t++) {
                Topic topic = now.topics.get(t);
                if ((topic.strand() || topic.first != -1) && (topic.standards >> standard) % 2 == 1) {
                    found.add(t);
                }
            }
            return found.size() == 1 ? found.get(0) : NONE;
        }

        private int drift(int week) {
            int sum = 0;
            for (Topic t : now.topics) {
                sum += now.due(t, week) - Math.min(t.taught, now.due(t, week));
            }
            return sum;
        }

        private int told(int what) {
            switch (what) {
                case 0:
                    return now.topics.size();
                case 1:
                    int n = 0;
                    for (boolean b : now.snow) {
                        n += b ? 1 : 0;
                    }
                    return n;
                case 2:
                    return now.test;
                case 3:
                    return findings;
                default:
                    return BEYOND;
            }
        }
    }

    private static final String[] NAMES = {
        "topic", "as", "need", "comes", "standards", "partner", "of", "room", "snow", "test", "sheet", "write",
        "copy", "read", "put", "again", "fault", "load", "evenness", "best", "plans", "least", "late", "met", "only",
        "book", "due", "drift", "undo", "told",
    };

    private static int call(LessonSpiral x, int which, int[] a) {
        switch (which) {
            case 0: return x.topic(a[0], a[1]);
            case 1: return x.as(a[0], a[1]);
            case 2: return x.need(a[0], a[1], a[2] == 1);
            case 3: return x.comes(a[0], a[1]);
            case 4: return x.standards(a[0], a[1]);
            case 5: return x.partner(a[0], a[1]);
            case 6: return x.of(a[0], a[1]);
            case 7: return x.room(a[0], a[1]);
            case 8: return x.snow(a[0], a[1] == 1);
            case 9: return x.test(a[0]);
            case 10: return x.sheet(a[0], a[1], a[2]);
            case 11: return x.write(a[0], a[1], a[2]);
            case 12: return x.copy(a[0], a[1], a[2], a[3], a[4]);
            case 13: return x.read(a[0]);
            case 14: return x.put(a[0], a[1]);
            case 15: return x.again(a[0], a[1]);
            case 16: return x.fault();
            case 17: return x.load(a[0]);
            case 18: return x.evenness();
            case 19: return x.best(a[0] == 1);
            case 20: return x.plans();
            case 21: return x.least(a[0] == 1);
            case 22: return x.late(a[0], a[1] == 1);
            case 23: return x.met(a[0] == 1);
            case 24: return x.only(a[0]);
            case 25: return x.book(a[0], a[1]);
            case 26: return x.due(a[0], a[1]);
            case 27: return x.drift(a[0]);
            case 28: return x.undo();
            default: return x.told(a[0]);
        }
    }

    /** What each argument is; T topic, W week, and so on, as in argument() below. */
    private static final String[] ARGUMENTS = {
        "KH", "TK", "TTB", "TR", "TS", "TP", "TO", "WV", "WB", "E", "sbn", "siv",
        "sjsjj", "s", "TX", "TX", "", "W", "", "B", "", "B", "WB", "B", "D",
        "Th", "TW", "W", "", "t",
    };

    private static int argument(char c, Random r, int topics) {
        if (r.nextInt(60) == 0) {
            int[] wild = {Integer.MIN_VALUE, Integer.MAX_VALUE, -2, -1, 41, 65536, 1001, 16, 32, 10};
            if (c != 'B') {
                return wild[r.nextInt(wild.length)];
            }
        }
        switch (c) {
            case 'K': return r.nextInt(4);
            case 'H': return r.nextInt(3) == 0 ? 1 + r.nextInt(9) : 1 + r.nextInt(4);
            case 'T': return r.nextInt(30) == 0 ? topics : r.nextInt(Math.max(1, topics));
            case 'P': return r.nextInt(topics + 1) - 1;
            case 'B': return r.nextInt(2);
            case 'R': return r.nextInt(3) == 0 ? 0 : r.nextInt(10);
            case 'S': return r.nextInt(65536) & r.nextInt(65536) & r.nextInt(65536);
            case 'O': return r.nextInt(8);
            case 'W': return r.nextInt(6);
            case 'V': return r.nextInt(4) == 0 ? r.nextInt(41) : 5 + r.nextInt(8);
            case 'E': return r.nextInt(3) == 0 ? r.nextInt(7) : 4 + r.nextInt(3);
            case 's': return r.nextInt(4);
            case 'b': return new int[] {0, 8, 8, 8, 8, 8, 16, 32}[r.nextInt(8)];
            case 'n': return r.nextInt(3) == 0 ? r.nextInt(7) : 4 + r.nextInt(3);
            case 'j': return r.nextInt(4);
            case 'i': return r.nextInt(6);
            case 'v': return r.nextInt(4) == 0 ? r.nextInt() : r.nextInt(16) - 2;
            case 'X': return r.nextInt(7) - 1;
            case 'D': return r.nextInt(16);
            case 'h': return r.nextInt(2) == 0 ? 1 + r.nextInt(100) : 1 + r.nextInt(4);
            default: return r.nextInt(4);
        }
    }

    private static String told(int which, int[] a) {
        int n = ARGUMENTS[which].length();
        return NAMES[which] + Arrays.toString(Arrays.copyOf(a, n));
    }

    /** All plans of four topics are many for a model without short cuts: few calls ask for them. */
    private static boolean isDear(Model m, int which) {
        if (which < 19 || which > 21 || m.now.own() > 4) {
            return false;
        }
        int n = 1;
        for (Topic t : m.now.topics) {
            n *= t.strand() ? 1 : t.comes == 0 ? 6 : 36;
        }
        return n > 10000;
    }

    private static int choose(Random r, int most, Model m) {
        if (m.now.topics.size() < 2 && r.nextInt(2) == 0) {
            return 0;
        }
        int which = r.nextInt(NAMES.length);
        // Snow and a lack of topics would else be the end of most runs.
        if (which == 0 && m.now.topics.size() >= most || which == 28 && r.nextInt(3) == 0) {
            return 19 + r.nextInt(3);
        }
        if (which == 8 && r.nextInt(2) == 0) {
            return 16;
        }
        if (isDear(m, which) && r.nextInt(40) != 0) {
            return 14 + r.nextInt(2);
        }
        return which;
    }

    /** How often each call gave an answer that is no finding, and the laws that were told. */
    private static final int[] good = new int[NAMES.length];
    private static final int[] laws = new int[8];

    private static boolean run(int seed) {
        Random r = new Random(seed);
        LessonSpiral x = new LessonSpiral();
        Model m = new Model();
        int most = seed % 8 == 0 ? 8 : 2 + seed % 4;
        int calls = 20 + r.nextInt(CALLS_MOST - 20);
        for (int i = 0; i < calls; i++) {
            int which = choose(r, most, m);
            int[] a = new int[5];
            for (int k = 0; k < ARGUMENTS[which].length(); k++) {
                a[k] = argument(ARGUMENTS[which].charAt(k), r, m.now.topics.size());
            }
            // Most snow is lifted again.
            if (which == 8 && r.nextInt(2) == 0) {
                a[1] = 0;
            }
            int want = m.call(which, a);
            int got = call(x, which, a);
            good[which] += want < -99999 ? 0 : 1;
            if (which == 16) {
                laws[want / 100]++;
            }
            if (got != want) {
                System.out.println("seed " + seed + ", call " + i + ": " + told(which, a) + " answered " + got
                    + ", due is " + want);
                return false;
            }
        }
        if (!isSame(x, m)) {
            System.out.println("seed " + seed + ": " + calls + " calls left another state");
            return false;
        }
        return true;
    }

    private static boolean isSame(LessonSpiral x, Model m) {
        boolean same = x.told(0) == m.now.topics.size() && x.told(3) == m.findings && x.fault() == m.now.fault();
        for (int t = 0; t < m.now.topics.size(); t++) {
            for (int what = 0; what < 8; what++) {
                same &= x.of(t, what) == Model.of(m.now.topics.get(t), what);
            }
        }
        for (int w = 0; w < 6; w++) {
            same &= x.load(w) == m.now.load(w);
        }
        return same;
    }

    public static void main(String[] args) {
        int wrong = 0;
        for (int seed = 0; seed < RUNS; seed++) {
            wrong += run(seed) ? 0 : 1;
        }
        for (int which = 0; which < NAMES.length; which++) {
            if (good[which] < RUNS / 4) {
                wrong++;
                System.out.println("the runs hardly use " + NAMES[which] + ": " + good[which]);
            }
        }
        System.out.println("laws told: " + Arrays.toString(laws));
        System.out.println(RUNS + " runs beside the model, " + wrong + " wrong");
        if (wrong != 0) {
            System.exit(1);
        }
    }
}
