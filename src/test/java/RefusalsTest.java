/**
 * "Each act tells its findings in the order in which they are asked; an act that answers a finding
 * changes nothing." Each row is an act that is refused, on each side of each bound and in each order,
 * on one of two objects of one and the same run; behind it the two must look the same, what can be
 * undone included, and one finding more must have been told.
 */
public final class RefusalsTest extends Twins {
    private static final int[] NO_WEEKS = {-1, 6, MIN, MAX};
    private static final int[] NO_TOPICS = {-1, 7, 8, MIN, MAX};
    private static final int[] NO_SHEETS = {-1, 4, MIN, MAX};

    private static int full(LessonSpiral x) {
        rich(x);
        return x.topic(3, 1);
    }

    /** Four topics that are no strands and a plan, but no room. */
    private static int crowded(LessonSpiral x) {
        for (int kind = 0; kind < 4; kind++) {
            x.topic(kind, 9);
        }
        x.topic(0, 1);
        x.put(0, 1);
        x.again(3, 4);
        for (int w = 0; w < 6; w++) {
            x.room(w, 9);
        }
        return x.told(0);
    }

    private static int crowdedByFive(LessonSpiral x) {
        crowded(x);
        return x.topic(0, 1);
    }

    /** 1000 hours are booked of topic 3, 901 of topic 2, 999 of topic 0. */
    private static int booked(LessonSpiral x) {
        rich(x);
        for (int i = 0; i < 9; i++) {
            x.book(3, 100);
            x.book(2, 100);
            x.book(0, 100);
        }
        return x.book(0, 97);
    }

    private static int nothing(LessonSpiral x) {
        return x.told(0);
    }

    /** All that is kept has been undone. */
    private static int spent(LessonSpiral x) {
        rich(x);
        for (int i = 0; i < 25; i++) {
            x.undo();
        }
        return x.told(0);
    }

    private static void refused(String what, Act run, Act act, int finding) {
        LessonSpiral x = behind(run);
        int before = x.told(3);
        due(what, act.on(x), finding);
        due(what + ": findings", x.told(3), before + 1);
        leavesAll(what, run, act);
    }

    private static void beyond(String what, Act act) {
        refused(what, Twins::rich, act, BEYOND);
    }

    private static void topic() {
        for (int kind : new int[] {-1, 4, MIN, MAX}) {
            beyond("2 kind " + kind, x -> x.topic(kind, 1));
            refused("2 kind ahead of FULL " + kind, RefusalsTest::full, x -> x.topic(kind, 1), BEYOND);
        }
        for (int hours : new int[] {0, 10, -1, MIN, MAX}) {
            beyond("2 hours " + hours, x -> x.topic(3, hours));
            beyond("2 hours of a strand " + hours, x -> x.topic(2, hours));
            refused("2 hours ahead of FULL " + hours, RefusalsTest::full, x -> x.topic(0, hours), BEYOND);
        }
        for (int kind = 0; kind < 4; kind++) {
            int k = kind;
            refused("2 FULL, kind " + kind, RefusalsTest::full, x -> x.topic(k, 1), FULL);
        }
    }

    private static void as() {
        for (int t : NO_TOPICS) {
            beyond("3 topic " + t, x -> x.as(t, 0));
            beyond("3 topic, another kind " + t, x -> x.as(t, 3));
        }
        refused("3 no topics at all", RefusalsTest::nothing, x -> x.as(0, 0), BEYOND);
        for (int kind : new int[] {-1, 4, MIN, MAX}) {
            beyond("3 kind " + kind, x -> x.as(0, kind));
            beyond("3 kind of a joint one " + kind, x -> x.as(3, kind));
        }
        int[][] others = {{0, 1}, {0, 2}, {0, 3}, {1, 2}, {1, 3}, {2, 1}, {2, 3}, {3, 2}};
        for (int[] o : others) {
            refused("3 KIND " + o[0] + " " + o[1], Twins::rich, x -> x.as(o[0], o[1]), KIND);
        }
    }

    private static void need() {
        for (int t : NO_TOPICS) {
            beyond("4 topic " + t, x -> x.need(t, 0, true));
            beyond("4 topic, no more " + t, x -> x.need(t, 0, false));
            beyond("4 other " + t, x -> x.need(0, t, true));
            beyond("4 other, no more " + t, x -> x.need(0, t, false));
            beyond("4 ahead of RING " + t, x -> x.need(t, t, true));
        }
        // 3 needs 1 that needs 0; 5 needs 4 that needs the strand 2.
        int[][] rings = {{0, 0}, {2, 2}, {6, 6}, {0, 1}, {1, 3}, {0, 3}, {2, 4}, {4, 5}, {2, 5}};
        for (int[] r : rings) {
            refused("4 RING " + r[0] + " " + r[1], Twins::rich, x -> x.need(r[0], r[1], true), RING);
        }
        refused("4 RING of eight", RefusalsTest::chain, x -> x.need(0, 7, true), RING);
        refused("4 RING of seven", RefusalsTest::chain, x -> x.need(1, 7, true), RING);
        refused("4 RING of eight, down", RefusalsTest::chainDown, x -> x.need(7, 0, true), RING);
    }

    /** Eight topics, of which each needs the one ahead of it. */
    private static int chain(LessonSpiral x) {
        withoutNeeds(x);
        int sum = 0;
        for (int t = 0; t < 7; t++) {
            sum += x.need(t + 1, t, true);
        }
        return sum;
    }

    private static int chainDown(LessonSpiral x) {
        withoutNeeds(x);
        int sum = 0;
        for (int t = 0; t < 7; t++) {
            sum += x.need(t, t + 1, true);
        }
        return sum;
    }

    private static void withoutNeeds(LessonSpiral x) {
        full(x);
        x.need(1, 0, false);
        x.need(3, 1, false);
        x.need(4, 2, false);
        x.need(5, 4, false);
    }

    private static void comes() {
        for (int t : NO_TOPICS) {
            beyond("5 topic " + t, x -> x.comes(t, 1));
        }
        for (int v : new int[] {-1, 10, MIN, MAX}) {
            beyond("5 v " + v, x -> x.comes(0, v));
            beyond("5 v ahead of KIND " + v, x -> x.comes(2, v));
        }
        for (int v = 0; v <= 9; v += 9) {
            int r = v;
            refused("5 KIND " + v, Twins::rich, x -> x.comes(2, r), KIND);
            refused("5 KIND, the last topic " + v, Twins::rich, x -> x.comes(6, r), KIND);
        }
    }

    private static void standards() {
        for (int t : NO_TOPICS) {
            beyond("6 topic " + t, x -> x.standards(t, 0));
        }
        for (int set : new int[] {-1, 1 << 16, 1 << 16 | 1, 1 << 30, MIN, MIN | 1, MAX}) {
            beyond("6 set " + set, x -> x.standards(0, set));
            beyond("6 set of a strand " + set, x -> x.standards(2, set));
        }
    }

    private static void partner() {
        for (int t : NO_TOPICS) {
            beyond("7 topic " + t, x -> x.partner(t, 0));
            beyond("7 topic, none " + t, x -> x.partner(t, -1));
        }
        for (int other : new int[] {-2, 7, 8, MIN, MAX}) {
            beyond("7 other " + other, x -> x.partner(3, other));
            beyond("7 other ahead of KIND " + other, x -> x.partner(0, other));
        }
        for (int t : new int[] {0, 1, 2, 4, 5, 6}) {
            refused("7 KIND " + t, Twins::rich, x -> x.partner(t, 3), KIND);
            refused("7 KIND, none " + t, Twins::rich, x -> x.partner(t, -1), KIND);
            refused("7 KIND ahead of SIZE " + t, Twins::rich, x -> x.partner(t, t), KIND);
        }
        refused("7 SIZE", Twins::rich, x -> x.partner(3, 3), SIZE);
        refused("7 SIZE, the last topic", RefusalsTest::full, x -> x.partner(7, 7), SIZE);
    }

    private static void of() {
        for (int t : NO_TOPICS) {
            beyond("8 topic " + t, x -> x.of(t, 0));
            beyond("8 topic, last what " + t, x -> x.of(t, 7));
        }
        refused("8 no topics at all", RefusalsTest::nothing, x -> x.of(0, 0), BEYOND);
        for (int what : new int[] {-1, 8, MIN, MAX}) {
            beyond("8 what " + what, x -> x.of(0, what));
            beyond("8 what of the last topic " + what, x -> x.of(6, what));
        }
    }

    private static void weeks() {
        for (int week : NO_WEEKS) {
            beyond("9 week " + week, x -> x.room(week, 10));
            beyond("10 week " + week, x -> x.snow(week, true));
            beyond("10 week, no snow " + week, x -> x.snow(week, false));
        }
        for (int v : new int[] {-1, 41, MIN, MAX}) {
            beyond("9 v " + v, x -> x.room(0, v));
            beyond("9 v in the last week " + v, x -> x.room(5, v));
        }
        for (int week : new int[] {-1, 7, MIN, MAX}) {
            beyond("11 week " + week, x -> x.test(week));
        }
    }

    private static void sheet() {
        for (int s : NO_SHEETS) {
            beyond("12 sheet " + s, x -> x.sheet(s, 8, 1));
            beyond("12 sheet, bits 0 " + s, x -> x.sheet(s, 0, 0));
            beyond("12 sheet ahead of SIZE " + s, x -> x.sheet(s, 8, -1));
        }
        for (int bits : new int[] {-1, 1, 7, 9, 15, 17, 24, 31, 33, 64, -8, MIN, MAX}) {
            beyond("12 bits " + bits, x -> x.sheet(0, bits, 1));
            beyond("12 bits ahead of SIZE " + bits, x -> x.sheet(3, bits, -1));
        }
        for (int bits : new int[] {0, 8, 16, 32}) {
            for (int n : new int[] {-1, MIN}) {
                refused("12 SIZE " + bits + " " + n, Twins::rich, x -> x.sheet(0, bits, n), SIZE);
            }
            for (int n : new int[] {7, MAX}) {
                beyond("12 n " + bits + " " + n, x -> x.sheet(0, bits, n));
            }
        }
    }

    private static void write() {
        for (int s : NO_SHEETS) {
            beyond("13 sheet " + s, x -> x.write(s, 0, 1));
        }
        for (int i : new int[] {0, 5, -1, 6, MIN, MAX}) {
            refused("13 MISSING " + i, Twins::rich, x -> x.write(3, i, 1), MISSING);
        }
        for (int i : new int[] {-1, MIN, 6, 7, MAX}) {
            beyond("13 number of six " + i, x -> x.write(0, i, 1));
        }
        for (int i : new int[] {-1, 3, 5}) {
            beyond("13 number of three " + i, x -> x.write(1, i, 1));
        }
        for (int i : new int[] {-1, 0, 1}) {
            beyond("13 number of none " + i, x -> x.write(2, i, 1));
        }
    }

    private static void copy() {
        for (int s : NO_SHEETS) {
            beyond("14 from sheet " + s, x -> x.copy(s, 0, 0, 0, 1));
            beyond("14 to sheet " + s, x -> x.copy(0, 0, s, 0, 1));
            beyond("14 from sheet ahead of MISSING " + s, x -> x.copy(s, 0, 3, 0, 1));
            beyond("14 to sheet ahead of MISSING " + s, x -> x.copy(3, 0, s, 0, 1));
        }
        int[][] missing = {{3, 0, 0, 0, 1}, {0, 0, 3, 0, 1}, {3, 0, 3, 0, 0}, {3, -1, 0, 0, 1}, {0, 0, 3, 0, -1}};
        for (int[] m : missing) {
            refused("14 MISSING", Twins::rich, x -> x.copy(m[0], m[1], m[2], m[3], m[4]), MISSING);
        }
        int[][] kinds = {{0, 0, 1, 0, 1}, {1, 0, 0, 0, 1}, {1, 0, 2, 0, 0}, {0, -1, 1, 0, 1}, {0, 0, 1, 0, 7},
            {0, 0, 1, -1, 1}, {0, 0, 1, 0, -1}};
        for (int[] k : kinds) {
            refused("14 KIND", Twins::rich, x -> x.copy(k[0], k[1], k[2], k[3], k[4]), KIND);
        }
        copyBeyond();
    }

    private static void copyBeyond() {
        int[][] rows = {
            {0, -1, 0, 0, 1}, {0, 0, 0, -1, 1}, {0, 0, 0, 0, -1}, {0, -1, 0, 0, 0}, {0, 0, 0, -1, 0},
            {0, 0, 0, 0, 7}, {0, 1, 0, 0, 6}, {0, 0, 0, 1, 6}, {0, 6, 0, 0, 1}, {0, 0, 0, 6, 1},
            {0, 5, 0, 0, 2}, {0, 0, 0, 5, 2}, {0, 0, 2, 0, 1}, {2, 0, 0, 0, 1}, {1, 1, 1, 0, 3}, {1, 0, 1, 1, 3},
            {0, MAX, 0, 0, 1}, {0, 0, 0, MAX, 1}, {0, 1, 0, 0, MAX}, {0, 0, 0, 1, MAX}, {0, MAX, 0, MAX, MAX},
            {0, MIN, 0, 0, 1}, {0, 0, 0, MIN, 1}, {0, 0, 0, 0, MIN}, {0, MIN, 0, MIN, MIN}, {0, 7, 0, 0, -1},
            {0, 7, 0, 0, 0}, {0, 0, 0, 7, 0}, {2, 1, 0, 0, 0}, {0, 0, 2, 1, 0},
        };
        for (int[] r : rows) {
            String row = r[0] + " " + r[1] + " " + r[2] + " " + r[3] + " " + r[4];
            beyond("14 copy " + row, x -> x.copy(r[0], r[1], r[2], r[3], r[4]));
        }
    }

    private static void read() {
        for (int s : NO_SHEETS) {
            beyond("15 sheet " + s, x -> x.read(s));
        }
        refused("15 MISSING", Twins::rich, x -> x.read(3), MISSING);
        for (int i = 0; i < 6; i++) {
            int at = i;
            Act above = x -> rich(x) + x.write(0, at, 41);
            refused("15 number " + i + " is 41", above, x -> x.read(0), BEYOND);
        }
        int[][] most = {{8, 127}, {16, 32767}, {32, MAX}, {16, 128}, {32, 32768}};
        for (int[] m : most) {
            Act above = x -> rich(x) + x.sheet(0, m[0], 6) + x.write(0, 0, -1) + x.write(0, 5, m[1]);
            refused("15 of " + m[0] + " bits " + m[1], above, x -> x.read(0), BEYOND);
        }
    }

    private static void meetings() {
        for (int t : NO_TOPICS) {
            beyond("16 topic " + t, x -> x.put(t, 0));
            beyond("17 topic " + t, x -> x.again(t, 0));
            beyond("16 topic, none " + t, x -> x.put(t, -1));
            beyond("17 topic, none " + t, x -> x.again(t, -1));
        }
        for (int week : new int[] {-2, 6, MIN, MAX}) {
            beyond("16 week " + week, x -> x.put(0, week));
            beyond("17 week " + week, x -> x.again(0, week));
            beyond("16 week ahead of KIND " + week, x -> x.put(2, week));
            beyond("17 week ahead of KIND " + week, x -> x.again(2, week));
        }
        for (int week : new int[] {-1, 0, 5}) {
            refused("16 KIND " + week, Twins::rich, x -> x.put(2, week), KIND);
            refused("17 KIND " + week, Twins::rich, x -> x.again(2, week), KIND);
        }
    }

    private static void plans() {
        for (int week : NO_WEEKS) {
            beyond("19 week " + week, x -> x.load(week));
        }
        refused("21 LONG", Twins::rich, x -> x.best(false), LONG);
        refused("21 LONG, take", Twins::rich, x -> x.best(true), LONG);
        refused("21 LONG ahead of NONE", RefusalsTest::crowdedByFive, x -> x.best(true), LONG);
        refused("21 NONE", RefusalsTest::crowded, x -> x.best(false), NONE);
        refused("21 NONE, take", RefusalsTest::crowded, x -> x.best(true), NONE);
        refused("22 LONG", Twins::rich, x -> x.plans(), LONG);
        refused("22 LONG, where none is whole", RefusalsTest::crowdedByFive, x -> x.plans(), LONG);
        refused("23 LONG", Twins::rich, x -> x.least(false), LONG);
        refused("23 LONG, take", Twins::rich, x -> x.least(true), LONG);
        refused("23 LONG ahead of NONE", RefusalsTest::crowdedByFive, x -> x.least(true), LONG);
        refused("23 NONE", RefusalsTest::crowded, x -> x.least(false), NONE);
        refused("23 NONE, take", RefusalsTest::crowded, x -> x.least(true), NONE);
    }

    private static void pupils() {
        for (int week : NO_WEEKS) {
            beyond("24 week " + week, x -> x.late(week, false));
            beyond("24 week, hours " + week, x -> x.late(week, true));
            beyond("28 week " + week, x -> x.due(0, week));
            beyond("28 week of a strand " + week, x -> x.due(2, week));
            beyond("29 week " + week, x -> x.drift(week));
        }
        for (int t : NO_TOPICS) {
            beyond("28 topic " + t, x -> x.due(t, 0));
        }
        for (int standard : new int[] {-1, 16, 31, 32, MIN, MAX}) {
            beyond("26 standard " + standard, x -> x.only(standard));
        }
        // Topic 0 has 0 and 2, the strand 2 and 15; topic 3 has 1 and 2, but no first week.
        refused("26 NONE, nobody has it", Twins::rich, x -> x.only(14), NONE);
        refused("26 NONE, without a first week", Twins::rich, x -> x.only(1), NONE);
        refused("26 NONE, two have it", Twins::rich, x -> x.only(2), NONE);
        refused("26 NONE, no topics at all", RefusalsTest::nothing, x -> x.only(0), NONE);
    }

    private static void book() {
        for (int t : NO_TOPICS) {
            beyond("27 topic " + t, x -> x.book(t, 1));
        }
        for (int h : new int[] {0, 101, -1, MIN, MAX}) {
            beyond("27 h " + h, x -> x.book(0, h));
            refused("27 h ahead of FULL " + h, RefusalsTest::booked, x -> x.book(3, h), BEYOND);
        }
        refused("27 FULL at 1000, by 1", RefusalsTest::booked, x -> x.book(3, 1), FULL);
        refused("27 FULL at 1000, by 100", RefusalsTest::booked, x -> x.book(3, 100), FULL);
        refused("27 FULL at 901, by 100", RefusalsTest::booked, x -> x.book(2, 100), FULL);
        refused("27 FULL at 999, by 2", RefusalsTest::booked, x -> x.book(0, 2), FULL);
    }

    private static void undoAndTold() {
        refused("30 NONE, at first", RefusalsTest::nothing, x -> x.undo(), NONE);
        refused("30 NONE, all are undone", RefusalsTest::spent, x -> x.undo(), NONE);
        for (int what : new int[] {-1, 4, MIN, MAX}) {
            beyond("31 what " + what, x -> x.told(what));
        }
    }

    public static void main(String[] args) {
        topic();
        as();
        need();
        comes();
        standards();
        partner();
        of();
        weeks();
        sheet();
        write();
        copy();
        read();
        meetings();
        plans();
        pupils();
        book();
        undoAndTold();
        end();
    }
}
