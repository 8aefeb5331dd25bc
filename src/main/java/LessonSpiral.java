/**
 * A planner of lessons that come again. The promises that it keeps are numbered in DOC.md; answers
 * below -99999 are findings, and an act that answers one has changed nothing.
 */
public final class LessonSpiral {
    private static final int BEYOND = -100001;
    private static final int MISSING = -100002;
    private static final int SIZE = -100003;
    private static final int KIND = -100004;
    private static final int FULL = -100005;
    private static final int NONE = -100006;
    private static final int RING = -100007;
    private static final int LONG = -100008;

    private static final int TOPICS = 8;
    private static final int WEEKS = 6;
    private static final int SHEETS = 4;
    private static final int NUMBERS = 6;
    private static final int STANDARD_LAST = 15;
    private static final int ALL_STANDARDS = 0xFFFF;
    private static final int HOURS_MOST = 9;
    private static final int RETURN_MOST = 9;
    private static final int ROOM_MOST = 40;
    private static final int BOOKED_MOST = 100;
    private static final int TAUGHT_MOST = 1000;

    /** No week, no partner: an answer, not a finding. */
    private static final int NOT_SET = -1;

    private final Course course;
    private final Laws laws;
    private final Search search;
    private final History history;
    private final Sheet[] sheets;
    private int findings;

    public LessonSpiral() {
        course = new Course();
        laws = new Laws(course);
        search = new Search(course, laws);
        history = new History();
        sheets = new Sheet[SHEETS];
        for (int s = 0; s < SHEETS; s++) {
            sheets[s] = new Sheet();
        }
    }

    // ---- topics

    public int topic(int kind, int hours) {
        if (isNoKind(kind) || hours < 1 || hours > HOURS_MOST) {
            return finding(BEYOND);
        }
        if (course.size() >= TOPICS) {
            return finding(FULL);
        }
        history.keep(course);
        return course.add(kind, hours);
    }

    public int as(int topic, int kind) {
        if (isNoTopic(topic) || isNoKind(kind)) {
            return finding(BEYOND);
        }
        return course.isOfKind(topic, kind) ? topic : finding(KIND);
    }

    public int need(int topic, int other, boolean on) {
        if (isNoTopic(topic) || isNoTopic(other)) {
            return finding(BEYOND);
        }
        if (on && (topic == other || has(course.allNeeds(1 << other), topic))) {
            return finding(RING);
        }
        history.keep(course);
        int old = course.get(Course.NEEDS, topic);
        int now = with(old, other, on);
        course.set(Course.NEEDS, topic, now);
        return old == now ? 0 : 1;
    }

    public int comes(int topic, int v) {
        if (isNoTopic(topic) || v < 0 || v > RETURN_MOST) {
            return finding(BEYOND);
        }
        if (course.isStrand(topic)) {
            return finding(KIND);
        }
        return change(Course.RETURN, topic, v);
    }

    public int standards(int topic, int set) {
        if (isNoTopic(topic) || set < 0 || set > ALL_STANDARDS) {
            return finding(BEYOND);
        }
        return change(Course.STANDARDS, topic, set);
    }

    public int partner(int topic, int other) {
        if (isNoTopic(topic) || other != NOT_SET && isNoTopic(other)) {
            return finding(BEYOND);
        }
        if (!course.isOfKind(topic, Course.JOINT)) {
            return finding(KIND);
        }
        if (topic == other) {
            return finding(SIZE);
        }
        return change(Course.PARTNER, topic, other);
    }

    public int of(int topic, int what) {
        if (isNoTopic(topic) || what < Course.OWN_KIND || what > Course.TAUGHT) {
            return finding(BEYOND);
        }
        return course.get(what, topic);
    }

    // ---- weeks

    public int room(int week, int v) {
        if (isNoWeek(week) || v < 0 || v > ROOM_MOST) {
            return finding(BEYOND);
        }
        history.keep(course);
        int old = course.roomOf(week);
        course.setRoom(week, v);
        return old;
    }

    public int snow(int week, boolean on) {
        if (isNoWeek(week)) {
            return finding(BEYOND);
        }
        history.keep(course);
        boolean isNew = course.hasSnow(week) != on;
        course.setSnow(week, on);
        return isNew ? 1 : 0;
    }

    public int test(int week) {
        if (week < 0 || week > WEEKS) {
            return finding(BEYOND);
        }
        history.keep(course);
        int old = course.testWeek();
        course.setTestWeek(week);
        return old;
    }

    // ---- sheets

    public int sheet(int s, int bits, int n) {
        if (isNoSheet(s) || bits != 0 && bits != 8 && bits != 16 && bits != 32) {
            return finding(BEYOND);
        }
        if (n < 0) {
            return finding(SIZE);
        }
        if (n > NUMBERS) {
            return finding(BEYOND);
        }
        return sheets[s].renew(bits, n);
    }

    public int write(int s, int i, int v) {
        if (isNoSheet(s)) {
            return finding(BEYOND);
        }
        Sheet sheet = sheets[s];
        if (sheet.isMissing()) {
            return finding(MISSING);
        }
        if (!sheet.holds(i, 1)) {
            return finding(BEYOND);
        }
        sheet.setNumber(i, v);
        return 0;
    }

    public int copy(int s, int from, int t, int to, int n) {
        if (isNoSheet(s) || isNoSheet(t)) {
            return finding(BEYOND);
        }
        Sheet source = sheets[s];
        Sheet target = sheets[t];
        if (source.isMissing() || target.isMissing()) {
            return finding(MISSING);
        }
        if (!source.isAsWideAs(target)) {
            return finding(KIND);
        }
        if (!source.holds(from, n) || !target.holds(to, n)) {
            return finding(BEYOND);
        }
        target.takeFrom(source, from, to, n);
        return n;
    }

    public int read(int s) {
        if (isNoSheet(s)) {
            return finding(BEYOND);
        }
        Sheet sheet = sheets[s];
        if (sheet.isMissing()) {
            return finding(MISSING);
        }
        int count = Math.min(sheet.size(), WEEKS);
        for (int week = 0; week < count; week++) {
            if (sheet.number(week) > ROOM_MOST) {
                return finding(BEYOND);
            }
        }
        history.keep(course);
        for (int week = 0; week < count; week++) {
            int v = sheet.number(week);
            course.setSnow(week, v < 0);
            if (v >= 0) {
                course.setRoom(week, v);
            }
        }
        return count;
    }

    // ---- the plan

    public int put(int topic, int week) {
        return meet(Course.FIRST, topic, week);
    }

    public int again(int topic, int week) {
        return meet(Course.SECOND, topic, week);
    }

    public int fault() {
        return laws.firstFault();
    }

    public int load(int week) {
        return isNoWeek(week) ? finding(BEYOND) : laws.loadOf(week);
    }

    public int evenness() {
        int sum = 0;
        for (int week = 0; week < WEEKS; week++) {
            int hours = laws.loadOf(week);
            sum += hours * hours;
        }
        return sum;
    }

    public int best(boolean take) {
        return seek(Search.MOST_EVEN, take);
    }

    public int plans() {
        return seek(Search.COUNT, false);
    }

    public int least(boolean take) {
        return seek(Search.LEAST_MOVED, take);
    }

    // ---- pupils, standards, what is taught

    public int late(int week, boolean hours) {
        if (isNoWeek(week)) {
            return finding(BEYOND);
        }
        int ahead = 0;
        int toCome = 0;
        for (int t = 0; t < course.size(); t++) {
            int first = course.get(Course.FIRST, t);
            if (first >= week) {
                toCome |= 1 << t;
            } else if (first != NOT_SET) {
                ahead |= 1 << t;
            }
        }
        int set = ahead & course.allNeeds(toCome);
        return hours ? hoursOf(set) : set;
    }

    public int met(boolean missing) {
        int set = 0;
        for (int t = 0; t < course.size(); t++) {
            if (course.isMet(t)) {
                set |= course.get(Course.STANDARDS, t);
            }
        }
        return missing ? ALL_STANDARDS & ~set : set;
    }

    public int only(int standard) {
        if (standard < 0 || standard > STANDARD_LAST) {
            return finding(BEYOND);
        }
        int found = NOT_SET;
        for (int t = 0; t < course.size(); t++) {
            if (course.isMet(t) && has(course.get(Course.STANDARDS, t), standard)) {
                if (found != NOT_SET) {
                    return finding(NONE);
                }
                found = t;
            }
        }
        return found == NOT_SET ? finding(NONE) : found;
    }

    public int book(int topic, int h) {
        if (isNoTopic(topic) || h < 1 || h > BOOKED_MOST) {
            return finding(BEYOND);
        }
        int taught = course.get(Course.TAUGHT, topic) + h;
        if (taught > TAUGHT_MOST) {
            return finding(FULL);
        }
        change(Course.TAUGHT, topic, taught);
        return taught;
    }

    public int due(int topic, int week) {
        if (isNoTopic(topic) || isNoWeek(week)) {
            return finding(BEYOND);
        }
        return dueHours(topic, week);
    }

    public int drift(int week) {
        if (isNoWeek(week)) {
            return finding(BEYOND);
        }
        int sum = 0;
        for (int t = 0; t < course.size(); t++) {
            sum += Math.max(0, dueHours(t, week) - course.get(Course.TAUGHT, t));
        }
        return sum;
    }

    public int undo() {
        return history.isEmpty() ? finding(NONE) : history.giveBack(course);
    }

    public int told(int what) {
        switch (what) {
            case 0:
                return course.size();
            case 1:
                return course.snowWeeks();
            case 2:
                return course.testWeek();
            case 3:
                return findings;
            default:
                return finding(BEYOND);
        }
    }

    // ---- what the acts share

    private int finding(int answer) {
        findings++;
        return answer;
    }

    private boolean isNoTopic(int topic) {
        return topic < 0 || topic >= course.size();
    }

    private static boolean isNoKind(int kind) {
        return kind < Course.TOPIC || kind > Course.JOINT;
    }

    private static boolean isNoWeek(int week) {
        return week < 0 || week >= WEEKS;
    }

    private static boolean isNoSheet(int s) {
        return s < 0 || s >= SHEETS;
    }

    private static boolean has(int set, int bit) {
        return (set >> bit & 1) != 0;
    }

    private static int with(int set, int bit, boolean on) {
        return on ? set | 1 << bit : set & ~(1 << bit);
    }

    /** An act on one number of a topic: kept for undo(), and answered with what the number was. */
    private int change(int what, int topic, int v) {
        history.keep(course);
        int old = course.get(what, topic);
        course.set(what, topic, v);
        return old;
    }

    private int meet(int which, int topic, int week) {
        if (isNoTopic(topic) || week != NOT_SET && isNoWeek(week)) {
            return finding(BEYOND);
        }
        if (course.isStrand(topic)) {
            return finding(KIND);
        }
        return change(which, topic, week);
    }

    private int seek(int aim, boolean take) {
        if (search.isTooLong()) {
            return finding(LONG);
        }
        search.listPlaces();
        search.run(aim);
        if (aim == Search.COUNT) {
            return search.count();
        }
        if (search.count() == 0) {
            return finding(NONE);
        }
        int answer = aim == Search.MOST_EVEN ? search.leastEvenness() : search.leastMoves();
        if (take) {
            history.keep(course);
            search.settle();
        }
        return answer;
    }

    private int hoursOf(int set) {
        int sum = 0;
        for (int t = 0; t < course.size(); t++) {
            if (has(set, t)) {
                sum += course.get(Course.HOURS, t);
            }
        }
        return sum;
    }

    private int dueHours(int topic, int week) {
        if (course.isStrand(topic)) {
            return course.openWeeksUpTo(week);
        }
        int first = course.get(Course.FIRST, topic);
        int second = course.get(Course.SECOND, topic);
        int hours = first != NOT_SET && first <= week ? course.get(Course.HOURS, topic) : 0;
        return second != NOT_SET && second <= week ? hours + 1 : hours;
    }

    /**
     * Topics, weeks, the test, the plan and what is taught. They stand in one row of numbers, so
     * that undo() keeps and brings back all of them by one copy.
     */
    private static final class Course {
        static final int TOPIC = 0;
        static final int TESTED = 1;
        static final int STRAND = 2;
        static final int JOINT = 3;

        /** The numbers of a topic; 0 to 7 in the order in which of() tells them. */
        static final int OWN_KIND = 0;
        static final int HOURS = 1;
        static final int NEEDS = 2;
        static final int RETURN = 3;
        static final int STANDARDS = 4;
        static final int FIRST = 5;
        static final int SECOND = 6;
        static final int TAUGHT = 7;
        static final int PARTNER = 8;

        static final int ROOM_AT = 9 * TOPICS;
        static final int SNOW_AT = ROOM_AT + WEEKS;
        static final int TEST_AT = SNOW_AT + 1;
        static final int SIZE_AT = TEST_AT + 1;
        static final int ROW = SIZE_AT + 1;

        private static final int ROOM_AT_FIRST = 10;

        private final int[] row;

        Course() {
            row = new int[ROW];
            for (int week = 0; week < WEEKS; week++) {
                row[ROOM_AT + week] = ROOM_AT_FIRST;
            }
            row[TEST_AT] = WEEKS;
        }

        void saveTo(int[] kept) {
            System.arraycopy(row, 0, kept, 0, ROW);
        }

        void bringBack(int[] kept) {
            System.arraycopy(kept, 0, row, 0, ROW);
        }

        int size() {
            return row[SIZE_AT];
        }

        int get(int what, int topic) {
            return row[what * TOPICS + topic];
        }

        void set(int what, int topic, int v) {
            row[what * TOPICS + topic] = v;
        }

        /** The caller has seen that there is room for one more. */
        int add(int kind, int hours) {
            int topic = row[SIZE_AT];
            set(OWN_KIND, topic, kind);
            set(HOURS, topic, hours);
            set(NEEDS, topic, 0);
            set(RETURN, topic, 0);
            set(STANDARDS, topic, 0);
            set(FIRST, topic, NOT_SET);
            set(SECOND, topic, NOT_SET);
            set(TAUGHT, topic, 0);
            set(PARTNER, topic, NOT_SET);
            row[SIZE_AT] = topic + 1;
            return topic;
        }

        boolean isOfKind(int topic, int kind) {
            int own = get(OWN_KIND, topic);
            return kind == TOPIC || kind == own || kind == TESTED && own == JOINT;
        }

        boolean isStrand(int topic) {
            return row[OWN_KIND * TOPICS + topic] == STRAND;
        }

        /** A strand goes on all the year, so it is met without a week of its own. */
        boolean isMet(int topic) {
            return isStrand(topic) || get(FIRST, topic) != NOT_SET;
        }

        int strands() {
            int count = 0;
            for (int t = 0; t < size(); t++) {
                count += isStrand(t) ? 1 : 0;
            }
            return count;
        }

        /** All that topics of a set need, by steps from one to one. */
        int allNeeds(int set) {
            int reached = 0;
            // Needs make no ring, so no way is longer than there are topics.
            for (int step = 0; step < TOPICS; step++) {
                int from = set | reached;
                for (int t = 0; t < size(); t++) {
                    if (has(from, t)) {
                        reached |= get(NEEDS, t);
                    }
                }
            }
            return reached;
        }

        int roomOf(int week) {
            return row[ROOM_AT + week];
        }

        void setRoom(int week, int v) {
            row[ROOM_AT + week] = v;
        }

        boolean hasSnow(int week) {
            return has(row[SNOW_AT], week);
        }

        void setSnow(int week, boolean on) {
            row[SNOW_AT] = with(row[SNOW_AT], week, on);
        }

        int snowWeeks() {
            return Integer.bitCount(row[SNOW_AT]);
        }

        int openWeeksUpTo(int week) {
            int count = 0;
            for (int w = 0; w <= week; w++) {
                count += hasSnow(w) ? 0 : 1;
            }
            return count;
        }

        int testWeek() {
            return row[TEST_AT];
        }

        void setTestWeek(int week) {
            row[TEST_AT] = week;
        }
    }

    /** The latest acts, each as the course was ahead of it; the oldest gives way when all rows are full. */
    private static final class History {
        private static final int MOST = 25;

        private final int[][] rows;
        private int next;
        private int size;

        History() {
            rows = new int[MOST][Course.ROW];
        }

        boolean isEmpty() {
            return size == 0;
        }

        void keep(Course course) {
            course.saveTo(rows[next]);
            next = next + 1 < MOST ? next + 1 : 0;
            size = Math.min(size + 1, MOST);
        }

        /** The caller has seen that there is one; the answer is how many are left. */
        int giveBack(Course course) {
            next = next > 0 ? next - 1 : MOST - 1;
            size--;
            course.bringBack(rows[next]);
            return size;
        }
    }

    private static final class Sheet {
        private final int[] numbers;
        private int bits;
        private int size;

        Sheet() {
            numbers = new int[NUMBERS];
        }

        int renew(int newBits, int n) {
            bits = newBits;
            size = newBits == 0 ? 0 : n;
            for (int i = 0; i < NUMBERS; i++) {
                numbers[i] = 0;
            }
            return size;
        }

        boolean isMissing() {
            return bits == 0;
        }

        boolean isAsWideAs(Sheet other) {
            return bits == other.bits;
        }

        int size() {
            return size;
        }

        /** Whether it has n numbers from one on; the difference cannot overflow, as a sum could. */
        boolean holds(int from, int n) {
            return from >= 0 && n >= 0 && from <= size - n;
        }

        int number(int i) {
            return numbers[i];
        }

        void setNumber(int i, int v) {
            if (bits == 8) {
                numbers[i] = (byte) v;
            } else if (bits == 16) {
                numbers[i] = (short) v;
            } else {
                numbers[i] = v;
            }
        }

        /** By arraycopy, which is right for one sheet copied over itself, too. */
        void takeFrom(Sheet source, int from, int to, int n) {
            System.arraycopy(source.numbers, from, numbers, to, n);
        }
    }

    /** The laws of a plan, and the loads that they look at. */
    private static final class Laws {
        private static final int LAST_OF_TOPICS = 5;

        private final Course course;

        Laws(Course course) {
            this.course = course;
        }

        int firstFault() {
            for (int law = 1; law <= LAST_OF_TOPICS; law++) {
                for (int t = 0; t < course.size(); t++) {
                    if (!course.isStrand(t) && !keeps(law, t)) {
                        return 100 * law + t;
                    }
                }
            }
            // Laws 2 and 4 leave this one nothing to find; it stands as the document has it.
            for (int week = 0; week < WEEKS; week++) {
                if (course.hasSnow(week) && loadOf(week) != 0) {
                    return 600 + week;
                }
            }
            for (int week = 0; week < WEEKS; week++) {
                if (loadOf(week) > course.roomOf(week)) {
                    return 700 + week;
                }
            }
            return 0;
        }

        int loadOf(int week) {
            int hours = strandLoad(week);
            for (int t = 0; t < course.size(); t++) {
                if (course.get(Course.FIRST, t) == week) {
                    hours += course.get(Course.HOURS, t);
                }
                if (course.get(Course.SECOND, t) == week) {
                    hours++;
                }
            }
            return hours;
        }

        int strandLoad(int week) {
            return course.hasSnow(week) ? 0 : course.strands();
        }

        boolean isOpen(int week) {
            return week != NOT_SET && !course.hasSnow(week);
        }

        boolean returnsInTime(int topic, int first, int second) {
            int weeks = course.get(Course.RETURN, topic);
            if (weeks == 0) {
                return second == NOT_SET;
            }
            // What is behind a first week is a week, and not none.
            return second > first && second <= first + weeks && !course.hasSnow(second);
        }

        /** No second week is ahead of all weeks, so it is ahead of the test, too. */
        boolean isAheadOfTest(int topic, int first, int second) {
            int test = course.testWeek();
            return !course.isOfKind(topic, Course.TESTED) || first < test && second < test;
        }

        /** Laws are asked in their order: the later ones may build on a first week being there. */
        private boolean keeps(int law, int topic) {
            int first = course.get(Course.FIRST, topic);
            int second = course.get(Course.SECOND, topic);
            switch (law) {
                case 1:
                    return first != NOT_SET;
                case 2:
                    return isOpen(first);
                case 3:
                    return isBehindNeeds(topic, first);
                case 4:
                    return returnsInTime(topic, first, second);
                default:
                    return isAheadOfTest(topic, first, second) && isBesidePartner(topic, first);
            }
        }

        private boolean isBehindNeeds(int topic, int first) {
            int needs = course.get(Course.NEEDS, topic);
            for (int t = 0; t < course.size(); t++) {
                if (has(needs, t) && !course.isStrand(t) && course.get(Course.FIRST, t) >= first) {
                    return false;
                }
            }
            return true;
        }

        private boolean isBesidePartner(int topic, int first) {
            int partner = course.get(Course.PARTNER, topic);
            return partner == NOT_SET || course.isStrand(partner) || course.get(Course.FIRST, partner) == first;
        }
    }

    /** A topic in the search: what is the same in all plans, worked out once, and its weeks in this one. */
    private static final class Place {
        private static final int OPTIONS_MOST = WEEKS * (WEEKS + 1);

        private final int[] firsts;
        private final int[] seconds;
        private final int[] moves;
        private int options;
        private int topic;
        private int hours;
        private int needs;
        private int partner;
        private int first;
        private int second;
        private int bestFirst;
        private int bestSecond;

        Place() {
            firsts = new int[OPTIONS_MOST];
            seconds = new int[OPTIONS_MOST];
            moves = new int[OPTIONS_MOST];
        }

        /** The weeks that a topic's own laws leave it, in the order in which plans are told. */
        void begin(int newTopic, Course course, Laws laws) {
            topic = newTopic;
            hours = course.get(Course.HOURS, topic);
            needs = course.get(Course.NEEDS, topic);
            partner = course.get(Course.PARTNER, topic);
            options = 0;
            for (int f = 0; f < WEEKS; f++) {
                for (int s = NOT_SET; s < WEEKS; s++) {
                    if (laws.isOpen(f) && laws.returnsInTime(topic, f, s) && laws.isAheadOfTest(topic, f, s)) {
                        addOption(course, f, s);
                    }
                }
            }
        }

        private void addOption(Course course, int f, int s) {
            if (options < OPTIONS_MOST) {
                firsts[options] = f;
                seconds[options] = s;
                int firstMoves = f == course.get(Course.FIRST, topic) ? 0 : 1;
                int secondMoves = s == course.get(Course.SECOND, topic) ? 0 : 1;
                moves[options] = firstMoves + secondMoves;
                options++;
            }
        }

        boolean isBehind(Place other) {
            return (needs >> other.topic & 1) != 0;
        }

        boolean isBeside(Place other) {
            return partner == other.topic || other.partner == topic;
        }

        /** The caller has seen that there is such an option. */
        void choose(int option) {
            first = firsts[option];
            second = seconds[option];
        }

        void keepAsBest() {
            bestFirst = first;
            bestSecond = second;
        }

        void settleIn(Course course) {
            course.set(Course.FIRST, topic, bestFirst);
            course.set(Course.SECOND, topic, bestSecond);
        }
    }

    /**
     * Goes through all whole plans in the order in which they are told: topic by topic, first week,
     * then second. A plan is left as soon as one of its laws is broken or, where one plan is sought,
     * as soon as it cannot become better than the best so far: moves and evenness only grow.
     */
    private static final class Search {
        static final int MOST_EVEN = 0;
        static final int LEAST_MOVED = 1;
        static final int COUNT = 2;

        private static final int LONGEST = 4;

        private final Course course;
        private final Laws laws;
        private final Place[] places;
        private final int[] rooms;
        private final int[] loads;
        private int aim;
        private int size;
        private int count;
        private int bestMoves;
        private int bestEvenness;

        Search(Course course, Laws laws) {
            this.course = course;
            this.laws = laws;
            places = new Place[LONGEST];
            for (int i = 0; i < LONGEST; i++) {
                places[i] = new Place();
            }
            rooms = new int[WEEKS];
            loads = new int[WEEKS];
        }

        boolean isTooLong() {
            return course.size() - course.strands() > LONGEST;
        }

        /** How many whole plans were come by: all that there are, if the aim is to count them. */
        int count() {
            return count;
        }

        int leastEvenness() {
            return bestEvenness;
        }

        int leastMoves() {
            return bestMoves;
        }

        /** The caller has seen that it is not too long, and listed the places. */
        void run(int newAim) {
            aim = newAim;
            count = 0;
            if (startLoads()) {
                place(0, 0, startEvenness());
            }
        }

        /** The plan that was found becomes the course's own. */
        void settle() {
            for (int i = 0; i < size; i++) {
                places[i].settleIn(course);
            }
        }

        void listPlaces() {
            size = 0;
            for (int t = 0; t < course.size() && size < LONGEST; t++) {
                if (!course.isStrand(t)) {
                    places[size].begin(t, course, laws);
                    size++;
                }
            }
        }

        /** Strands stand in every plan; false if they alone are more than a week's room. */
        private boolean startLoads() {
            boolean allFit = true;
            for (int week = 0; week < WEEKS; week++) {
                rooms[week] = course.roomOf(week);
                loads[week] = laws.strandLoad(week);
                allFit &= loads[week] <= rooms[week];
            }
            return allFit;
        }

        private int startEvenness() {
            int sum = 0;
            for (int week = 0; week < WEEKS; week++) {
                sum += loads[week] * loads[week];
            }
            return sum;
        }

        private void place(int depth, int moves, int evenness) {
            if (depth >= size) {
                keepPlan(moves, evenness);
                return;
            }
            Place here = places[depth];
            int earliest = earliestFirst(depth);
            int latest = latestFirst(depth);
            for (int i = 0; i < here.options; i++) {
                int first = here.firsts[i];
                if (first >= earliest && first <= latest && fits(here.hours, first, here.seconds[i])) {
                    here.choose(i);
                    goOn(depth, moves + here.moves[i], evenness);
                }
            }
        }

        private void goOn(int depth, int moves, int evenness) {
            Place here = places[depth];
            int grown = evenness + growth(here.first, here.hours) + growth(here.second, 1);
            if (canBeBest(moves, grown)) {
                burden(here.first, here.hours);
                burden(here.second, 1);
                place(depth + 1, moves, grown);
                burden(here.first, -here.hours);
                burden(here.second, -1);
            }
        }

        /** By how much hours in a week make the sum of squares greater. */
        private int growth(int week, int hours) {
            return week == NOT_SET ? 0 : hours * (2 * loads[week] + hours);
        }

        private void burden(int week, int hours) {
            if (week != NOT_SET) {
                loads[week] += hours;
            }
        }

        /** First and second are never one week, so each is looked at for itself. */
        private boolean fits(int hours, int first, int second) {
            return loads[first] + hours <= rooms[first] && (second == NOT_SET || loads[second] < rooms[second]);
        }

        /** By laws 3 and 5, beside the topics that have been placed. */
        private int earliestFirst(int depth) {
            Place here = places[depth];
            int week = 0;
            for (int i = 0; i < depth; i++) {
                Place other = places[i];
                if (here.isBehind(other)) {
                    week = Math.max(week, other.first + 1);
                }
                if (here.isBeside(other)) {
                    week = Math.max(week, other.first);
                }
            }
            return week;
        }

        private int latestFirst(int depth) {
            Place here = places[depth];
            int week = WEEKS - 1;
            for (int i = 0; i < depth; i++) {
                Place other = places[i];
                if (other.isBehind(here)) {
                    week = Math.min(week, other.first - 1);
                }
                if (here.isBeside(other)) {
                    week = Math.min(week, other.first);
                }
            }
            return week;
        }

        /** Only what is better counts, so that of several the first stays. */
        private boolean canBeBest(int moves, int evenness) {
            if (aim == COUNT || count == 0) {
                return true;
            }
            if (aim == LEAST_MOVED && moves != bestMoves) {
                return moves < bestMoves;
            }
            return evenness < bestEvenness;
        }

        /** A plan that cannot be the best does not come this far, but where all are counted. */
        private void keepPlan(int moves, int evenness) {
            count++;
            if (aim != COUNT) {
                bestMoves = moves;
                bestEvenness = evenness;
                for (int i = 0; i < size; i++) {
                    places[i].keepAsBest();
                }
            }
        }
    }
}
