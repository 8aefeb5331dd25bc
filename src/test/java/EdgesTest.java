/**
 * The sentences of the document that name a boundary, one method each, with the sentence's words above it: the
 * last value that is taken on each side, what is empty, what is full, and what goes round. The
 * first values that are refused stand in RefusalsTest, the laws of a plan in LawsTest.
 */
public final class EdgesTest extends Twins {
    private static LessonSpiral eight(int kind) {
        LessonSpiral x = new LessonSpiral();
        for (int t = 0; t < 8; t++) {
            x.topic(kind, t + 1);
        }
        return x;
    }

    // ---- What it is

    /** "An object is used for at most 512 calls after it has been made." */
    private static void last512() {
        LessonSpiral x = new LessonSpiral();
        x.topic(0, 1);
        for (int i = 1; i < 510; i += 2) {
            due("0 book, call " + (i + 1), x.book(0, 1), 1);
            due("0 undo, call " + (i + 2), x.undo(), 1);
        }
        due("0 call 512", x.told(0), 1);
        LessonSpiral y = new LessonSpiral();
        for (int i = 1; i < 512; i++) {
            y.undo();
        }
        due("0 findings at call 512", y.told(3), 511);
    }

    // ---- Terms

    /** "FINDINGS are answers below -99999": each by its number. */
    private static void findings() {
        LessonSpiral x = fourKinds();
        due("0 BEYOND", x.topic(4, 1), -100001);
        due("0 MISSING", x.read(0), -100002);
        due("0 SIZE", x.sheet(0, 8, -1), -100003);
        due("0 KIND", x.put(2, 0), -100004);
        due("0 NONE", x.only(0), -100006);
        due("0 RING", x.need(0, 0, true), -100007);
        for (int t = 4; t < 8; t++) {
            x.topic(0, 1);
        }
        due("0 FULL", x.topic(0, 1), -100005);
        due("0 LONG", x.plans(), -100008);
        due("0 all are counted", x.told(3), 8);
    }

    /** "Sets are told by bits." */
    private static void sets() {
        for (int t = 0; t < 7; t++) {
            LessonSpiral x = eight(0);
            x.need(7, t, true);
            due("0 needs by bit " + t, x.of(7, 2), 1 << t);
            x.put(t, 0);
            x.put(7, 1);
            due("0 late by bit " + t, x.late(1, false), 1 << t);
        }
        LessonSpiral x = eight(0);
        x.need(0, 7, true);
        x.put(7, 0);
        x.put(0, 1);
        due("0 needs by bit 7", x.of(0, 2), 128);
        due("0 late by bit 7", x.late(1, false), 128);
        for (int b = 0; b < 16; b++) {
            x.standards(0, 1 << b);
            due("0 met by bit " + b, x.met(false), 1 << b);
            due("0 missing by bit " + b, x.met(true), 65535 - (1 << b));
        }
    }

    // ---- Promise 1

    /** "No topics, weeks as told, an empty plan; sheets MISSING." */
    private static void newObject() {
        LessonSpiral other = new LessonSpiral();
        rich(other);
        // What another object has is not seen here.
        LessonSpiral x = new LessonSpiral();
        due("1 no topics", x.told(0), 0);
        due("1 no snow", x.told(1), 0);
        due("1 the test behind all", x.told(2), 6);
        due("1 no findings", x.told(3), 0);
        due("1 fault", x.fault(), 0);
        due("1 evenness", x.evenness(), 0);
        due("1 best", x.best(false), 0);
        due("1 plans", x.plans(), 1);
        due("1 least", x.least(false), 0);
        due("1 met", x.met(false), 0);
        due("1 missing", x.met(true), 65535);
        for (int w = 0; w < 6; w++) {
            due("1 load", x.load(w), 0);
            due("1 late", x.late(w, false) + x.late(w, true), 0);
            due("1 drift", x.drift(w), 0);
        }
        due("1 nothing of all this is a finding", x.told(3), 0);
        for (int s = 0; s < 4; s++) {
            due("1 sheet " + s, x.write(s, 0, 0), MISSING);
        }
        due("1 nothing to undo", x.undo(), NONE);
        for (int w = 0; w < 6; w++) {
            due("1 room " + w, x.room(w, 0), 10);
            due("1 snow " + w, x.snow(w, true), 1);
        }
    }

    // ---- Promises 2 to 8: topics

    /** "TOPICS 0, 1, .. (at most 8) are of a kind: 0 .. 3"; "FULL: there are 8." */
    private static void eightTopics() {
        for (int kind = 0; kind < 4; kind++) {
            LessonSpiral x = new LessonSpiral();
            for (int t = 0; t < 8; t++) {
                due("2 kind " + kind + " number " + t, x.topic(kind, 1), t);
                due("2 so many", x.told(0), t + 1);
            }
            due("2 the ninth", x.topic(kind, 1), FULL);
            due("2 the eighth has its kind", x.of(7, 0), kind);
            x.undo();
            due("2 room for one again", x.topic(3 - kind, 2), 7);
            due("2 the eighth anew", x.of(7, 0), 3 - kind);
            due("2 the ninth again", x.topic(kind, 1), FULL);
        }
    }

    /** "at most 8": where all eight are there, none is seen behind the last. */
    private static void noneBehindTheEighth() {
        for (int hours = 1; hours <= 9; hours++) {
            LessonSpiral x = new LessonSpiral();
            for (int t = 0; t < 8; t++) {
                x.topic(0, hours);
                x.put(t, 1);
                x.again(t, 3);
                x.comes(t, 9);
            }
            x.standards(7, 3);
            due("2 load of no topic", x.load(0), 0);
            due("2 load of eight", x.load(1), 8 * hours);
            due("2 load of eight seconds", x.load(3), 8);
            due("2 evenness of eight", x.evenness(), 64 * hours * hours + 64);
            due("2 standards of eight", x.met(false), 3);
            due("2 the eighth alone", x.only(0), 7);
            due("2 the eighth alone, too", x.only(1), 7);
            due("2 drift of eight", x.drift(5), 8 * hours + 8);
            due("2 nothing is needed", x.late(2, false), 0);
            due("2 fault of eight", x.fault(), 8 * hours > 10 ? 701 : 0);
            due("2 eight are too many", x.plans(), LONG);
        }
    }

    /** "Each has HOURS (1 to 9), NEEDS (none at first), a RETURN (0: none, at first), STANDARDS (none at first)". */
    private static void topicAtFirst() {
        for (int hours = 1; hours <= 9; hours++) {
            for (int kind = 0; kind < 4; kind++) {
                LessonSpiral x = new LessonSpiral();
                x.topic(kind, hours);
                int[] want = {kind, hours, 0, 0, 0, -1, -1, 0};
                for (int what = 0; what < 8; what++) {
                    due("2 at first, of " + what, x.of(0, what), want[what]);
                }
                due("2 no finding", x.told(3), 0);
            }
        }
    }

    /** "KIND: it is not of that kind, nor of one under it": TESTED, STRAND under TOPIC, JOINT under TESTED. */
    private static void kindsUnder() {
        boolean[][] under = {
            {true, false, false, false}, {true, true, false, false},
            {true, false, true, false}, {true, true, false, true},
        };
        for (int own = 0; own < 4; own++) {
            LessonSpiral x = eight(own);
            for (int kind = 0; kind < 4; kind++) {
                due("3 the first as " + kind, x.as(0, kind), under[own][kind] ? 0 : KIND);
                due("3 the last as " + kind, x.as(7, kind), under[own][kind] ? 7 : KIND);
            }
        }
    }

    /** "A topic NEEDS another one (on false: no more): 1 if that is new, else 0." */
    private static void needOnAndOff() {
        LessonSpiral x = eight(0);
        int set = 0;
        for (int other = 0; other < 7; other++) {
            due("4 off, but was not on " + other, x.need(7, other, false), 0);
            due("4 new " + other, x.need(7, other, true), 1);
            due("4 not new " + other, x.need(7, other, true), 0);
            set |= 1 << other;
            due("4 set " + other, x.of(7, 2), set);
        }
        for (int other = 6; other >= 0; other--) {
            due("4 no more " + other, x.need(7, other, false), 1);
            due("4 no more, not new " + other, x.need(7, other, false), 0);
            set &= ~(1 << other);
            due("4 set then " + other, x.of(7, 2), set);
        }
        due("4 no finding", x.told(3), 0);
    }

    /** "RING: they would go round (itself, too)": a way of eight is taken, and what closes none. */
    private static void needWithoutRing() {
        LessonSpiral x = eight(0);
        for (int t = 0; t < 7; t++) {
            due("4 chain " + t, x.need(t, t + 1, true), 1);
        }
        for (int t = 0; t < 8; t++) {
            for (int other = t + 1; other < 8; other++) {
                due("4 down the chain " + t + " " + other, x.need(t, other, true), other == t + 1 ? 0 : 1);
                due("4 up the chain " + other + " " + t, x.need(other, t, true), RING);
            }
            due("4 itself " + t, x.need(t, t, true), RING);
            due("4 itself, no more " + t, x.need(t, t, false), 0);
        }
        LessonSpiral y = plain(1, 1);
        y.need(0, 1, true);
        due("4 round", y.need(1, 0, true), RING);
        due("4 off goes not round", y.need(1, 0, false), 0);
        y.need(0, 1, false);
        due("4 the other way then", y.need(1, 0, true), 1);
    }

    /** "a RETURN (0: none, at first; 1 to 9 weeks)". */
    private static void returns() {
        for (int kind : new int[] {0, 1, 3}) {
            LessonSpiral x = eight(kind);
            int was = 0;
            for (int v : new int[] {0, 1, 9, 8, 9, 0}) {
                due("5 first topic", x.comes(0, v), was);
                due("5 last topic", x.comes(7, v), was);
                due("5 of", x.of(7, 3), v);
                was = v;
            }
        }
    }

    /** "STANDARDS (a set of 0 to 15, none at first)". */
    private static void standards() {
        for (int kind = 0; kind < 4; kind++) {
            LessonSpiral x = eight(kind);
            int was = 0;
            for (int set : new int[] {0, 1, 1 << 15, 65535, 65534, 0}) {
                due("6 first topic", x.standards(0, set), was);
                due("6 last topic", x.standards(7, set), was);
                due("6 of", x.of(7, 4), set);
                was = set;
            }
        }
    }

    /** "A JOINT topic's PARTNER becomes another one (-1: none): what it was (-1: none, no finding)." */
    private static void partners() {
        LessonSpiral x = eight(3);
        due("7 at first none", x.partner(0, -1), -1);
        due("7 none again", x.partner(0, 1), -1);
        due("7 the next one", x.partner(0, 7), 1);
        due("7 the last one", x.partner(0, -1), 7);
        due("7 of the last one at first", x.partner(7, 0), -1);
        due("7 the first one", x.partner(7, 6), 0);
        due("7 both ways", x.partner(0, 7), -1);
        due("7 stays", x.partner(7, -1), 6);
        due("7 no finding", x.told(3), 0);
        LessonSpiral y = fourKinds();
        for (int other = 0; other < 3; other++) {
            due("7 of any kind " + other, y.partner(3, other), other - 1);
        }
    }

    /** "Of a topic: 0 its kind, .. 7 TAUGHT": of the first and of the last topic; "5 FIRST (-1: none, no finding)". */
    private static void ofFirstAndLast() {
        for (int t = 0; t < 8; t += 7) {
            LessonSpiral x = eight(3);
            x.need(t, 7 - t, true);
            x.comes(t, 9);
            x.standards(t, 65535);
            x.put(t, 0);
            x.again(t, 5);
            x.book(t, 100);
            int[] want = {3, t + 1, 1 << 7 - t, 9, 65535, 0, 5, 100};
            int[] other = {3, 8 - t, 0, 0, 0, -1, -1, 0};
            for (int what = 0; what < 8; what++) {
                due("8 topic " + t + " what " + what, x.of(t, what), want[what]);
                due("8 beside topic " + t + " what " + what, x.of(7 - t, what), other[what]);
            }
            due("8 none is no finding", x.told(3), 0);
        }
    }

    // ---- Promises 9 to 11: weeks

    /** "WEEKS 0 to 5 have each a ROOM (0 to 40; 10 at first)". */
    private static void rooms() {
        LessonSpiral x = new LessonSpiral();
        for (int w = 0; w < 6; w++) {
            due("9 at first " + w, x.room(w, 0), 10);
            due("9 least " + w, x.room(w, 40), 0);
            due("9 most " + w, x.room(w, 40 - w), 40);
        }
        for (int w = 0; w < 6; w++) {
            due("9 each its own " + w, x.room(w, 1), 40 - w);
        }
    }

    /** "A WEEK has SNOW, or not: 1 if that is new, else 0": in no week, in all, in none again. */
    private static void snows() {
        LessonSpiral x = new LessonSpiral();
        for (int w = 0; w < 6; w++) {
            due("10 at first not " + w, x.snow(w, false), 0);
            due("10 new " + w, x.snow(w, true), 1);
            due("10 not new " + w, x.snow(w, true), 0);
            due("10 so many " + w, x.told(1), w + 1);
        }
        for (int w = 0; w < 6; w++) {
            due("10 off " + w, x.snow(w, false), 1);
            due("10 off, not new " + w, x.snow(w, false), 0);
            due("10 so many left " + w, x.told(1), 5 - w);
        }
    }

    /** "THE TEST is in a WEEK (0 to 6): what it was"; "(6, at first: behind all)". */
    private static void tests() {
        LessonSpiral x = new LessonSpiral();
        x.topic(1, 1);
        x.put(0, 5);
        due("11 behind all", x.fault(), 0);
        int was = 6;
        for (int w = 0; w <= 6; w++) {
            due("11 week " + w, x.test(w), was);
            due("11 told " + w, x.told(2), w);
            was = w;
        }
        due("11 the same again", x.test(6), 6);
    }

    // ---- Promises 12 to 15: sheets

    /** "A sheet has n numbers, all 0, of 8, 16 or 32 bits"; "rows of up to 6 numbers". */
    private static void sheetSizes() {
        for (int bits : new int[] {8, 16, 32}) {
            for (int s = 0; s < 4; s++) {
                for (int n = 0; n <= 6; n++) {
                    LessonSpiral x = new LessonSpiral();
                    due("12 made", x.sheet(s, bits, n), n);
                    holds("12 all zero", x, s, new int[n]);
                    due("12 no number behind the last", x.write(s, n, 1), BEYOND);
                    due("12 the last number", n == 0 ? 0 : x.write(s, n - 1, 1), 0);
                }
            }
        }
    }

    /** "A sheet has n numbers, all 0": also one that had others, more or fewer. */
    private static void sheetAnew() {
        for (int bits : new int[] {8, 16, 32}) {
            LessonSpiral x = new LessonSpiral();
            fill(x, 1, 1, 2, 3, 4, 5, 6);
            due("12 fewer", x.sheet(1, bits, 2), 2);
            holds("12 fewer", x, 1, 0, 0);
            due("12 more", x.sheet(1, bits, 6), 6);
            holds("12 more", x, 1, 0, 0, 0, 0, 0, 0);
        }
    }

    /** "bits 0: it is MISSING: n (0)"; one of no numbers is not. */
    private static void sheetMissing() {
        LessonSpiral x = new LessonSpiral();
        due("12 missing that was", x.sheet(2, 0, 0), 0);
        due("12 still missing", x.read(2), MISSING);
        due("12 empty", x.sheet(2, 8, 0), 0);
        due("12 empty is not missing", x.write(2, 0, 1), BEYOND);
        due("12 empty is read", x.read(2), 0);
        due("12 empty is copied", x.copy(2, 0, 2, 0, 0), 0);
        fill(x, 2, 7, 8);
        due("12 missing", x.sheet(2, 0, 0), 0);
        due("12 read", x.read(2), MISSING);
        due("12 write", x.write(2, 0, 1), MISSING);
        due("12 copy from", x.copy(2, 0, 2, 0, 0), MISSING);
        x.sheet(2, 8, 2);
        holds("12 nothing is left", x, 2, 0, 0);
        due("12 missing with a number said", x.sheet(2, 0, 6), 0);
        due("12 and so it is", x.read(2), MISSING);
    }

    private static final int REFUSED = 99;
    private static final int SNOWY = -1;

    /** What read() makes of one number: a room, SNOW, or a finding. */
    private static void tells(int bits, int v, int want) {
        for (int i = 0; i < 6; i += 5) {
            LessonSpiral x = new LessonSpiral();
            x.sheet(3, bits, 6);
            String what = "13 " + v + " in " + bits + " bits, number " + i;
            due(what, x.write(3, i, v), 0);
            due(what + " read", x.read(3), want == REFUSED ? BEYOND : 6);
            due(what + " snow", x.told(1), want == SNOWY ? 1 : 0);
            due(what + " snow there", x.snow(i, true), want == SNOWY ? 0 : 1);
            due(what + " room", x.room(i, 0), want == REFUSED || want == SNOWY ? 10 : want);
            due(what + " beside", x.room(5 - i, 0), want == REFUSED ? 10 : 0);
        }
    }

    /** "Number i of a sheet becomes v (its lowest bits)". */
    private static void lowestBits() {
        int[][] rows = {
            {8, 40, 40}, {8, 41, REFUSED}, {8, 127, REFUSED}, {8, 128, SNOWY}, {8, 255, SNOWY}, {8, 256, 0},
            {8, 256 + 40, 40}, {8, 256 + 41, REFUSED}, {8, -1, SNOWY}, {8, -128, SNOWY}, {8, -129, REFUSED},
            {8, -216, 40}, {8, -256, 0}, {8, -257, SNOWY}, {8, MIN, 0}, {8, MAX, SNOWY}, {8, 65536 + 7, 7},
            {16, 40, 40}, {16, 41, REFUSED}, {16, 256, REFUSED}, {16, 32767, REFUSED}, {16, 32768, SNOWY},
            {16, 65535, SNOWY}, {16, 65536, 0}, {16, 65536 + 40, 40}, {16, 65536 + 41, REFUSED}, {16, -1, SNOWY},
            {16, -32768, SNOWY}, {16, -32769, REFUSED}, {16, -65536 + 3, 3}, {16, MIN, 0}, {16, MAX, SNOWY},
            {32, 40, 40}, {32, 41, REFUSED}, {32, 256, REFUSED}, {32, 65536, REFUSED}, {32, MAX, REFUSED},
            {32, MIN, SNOWY}, {32, -1, SNOWY}, {32, 0, 0},
        };
        for (int[] r : rows) {
            tells(r[0], r[1], r[2]);
        }
    }

    /** "n numbers of a sheet from one on come to another one from one on: n": none, one, the last, all. */
    private static void copies() {
        for (int n = 0; n <= 6; n++) {
            for (int from = 0; from + n <= 6; from++) {
                for (int to = 0; to + n <= 4; to++) {
                    LessonSpiral x = new LessonSpiral();
                    fill(x, 0, 1, 2, 3, 4, 5, 6);
                    fill(x, 3, 11, 12, 13, 14);
                    int[] want = {11, 12, 13, 14};
                    for (int i = 0; i < n; i++) {
                        want[to + i] = from + i + 1;
                    }
                    String what = "14 copy of " + n + " from " + from + " to " + to;
                    due(what, x.copy(0, from, 3, to, n), n);
                    holds(what, x, 3, want);
                    holds(what + ", source", x, 0, 1, 2, 3, 4, 5, 6);
                }
            }
        }
    }

    /** The same, of a sheet to itself: the numbers that come are those that it had. */
    private static void copiesOverItself() {
        for (int n = 0; n <= 6; n++) {
            for (int from = 0; from + n <= 6; from++) {
                for (int to = 0; to + n <= 6; to++) {
                    LessonSpiral x = new LessonSpiral();
                    fill(x, 2, 1, 2, 3, 4, 5, 6);
                    int[] want = {1, 2, 3, 4, 5, 6};
                    for (int i = 0; i < n; i++) {
                        want[to + i] = from + i + 1;
                    }
                    String what = "14 over itself, " + n + " from " + from + " to " + to;
                    due(what, x.copy(2, from, 2, to, n), n);
                    holds(what, x, 2, want);
                }
            }
        }
    }

    /** "KIND: they are not of as many bits": such as are, are taken, whole numbers and their signs. */
    private static void copiesOfBits() {
        int[] all = {8, 16, 32};
        for (int a : all) {
            for (int b : all) {
                LessonSpiral x = new LessonSpiral();
                x.sheet(0, a, 2);
                x.sheet(1, b, 2);
                x.write(0, 1, -1);
                due("14 " + a + " to " + b + " bits", x.copy(0, 1, 1, 0, 1), a == b ? 1 : KIND);
                due("14 read " + a + " to " + b, x.read(1), 2);
                due("14 snow " + a + " to " + b, x.snow(0, true), a == b ? 0 : 1);
            }
        }
    }

    /** "ROOMS are read off a sheet, from WEEK 0 on (WEEKS for which it has none stay)": none, some, all. */
    private static void readsSome() {
        for (int n = 0; n <= 6; n++) {
            LessonSpiral x = new LessonSpiral();
            for (int w = 0; w < 6; w++) {
                x.room(w, 30 + w);
                x.snow(w, w % 2 == 0);
            }
            x.sheet(0, 16, n);
            for (int i = 0; i < n; i++) {
                x.write(0, i, 40 - i);
            }
            due("15 so many " + n, x.read(0), n);
            for (int w = 0; w < 6; w++) {
                due("15 snow in " + w + " of " + n, x.snow(w, false), w >= n && w % 2 == 0 ? 1 : 0);
                due("15 room in " + w + " of " + n, x.room(w, 0), w < n ? 40 - w : 30 + w);
            }
        }
    }

    /** "one that is below 0 tells SNOW (the ROOM stays), others no SNOW"; "BEYOND: one is above 40". */
    private static void readsSnow() {
        for (int v : new int[] {MIN, -2, -1, 0, 1, 39, 40}) {
            for (int was = 0; was < 2; was++) {
                LessonSpiral x = new LessonSpiral();
                x.room(5, 33);
                x.snow(5, was == 1);
                x.sheet(0, 32, 6);
                x.write(0, 5, v);
                due("15 read " + v, x.read(0), 6);
                due("15 snow by " + v, x.snow(5, false), v < 0 ? 1 : 0);
                due("15 room by " + v, x.room(5, 0), v < 0 ? 33 : v);
            }
        }
    }

    // ---- Promises 16, 17, 19, 20: the plan

    /** "A topic's FIRST becomes a WEEK (-1: none): what it was (-1: none, no finding)"; "SECOND, likewise". */
    private static void meetings() {
        for (int kind : new int[] {0, 1, 3}) {
            LessonSpiral x = eight(kind);
            for (int t = 0; t < 8; t += 7) {
                int was = -1;
                for (int w : new int[] {-1, 0, 5, 5, -1, 3, -1}) {
                    due("16 put " + t + " " + w, x.put(t, w), was);
                    due("17 again " + t + " " + w, x.again(t, w), was);
                    due("16 of " + t + " " + w, x.of(t, 5), w);
                    due("17 of " + t + " " + w, x.of(t, 6), w);
                    was = w;
                }
                x.put(t, 4);
                due("16 second stays " + t, x.of(t, 6), -1);
                x.again(t, 2);
                due("17 first stays " + t, x.of(t, 5), 4);
            }
            due("16 no finding", x.told(3), 0);
        }
    }

    /** "LOAD of a WEEK: HOURS of topics whose FIRST it is, 1 for each whose SECOND it is, 1 for each STRAND (..)". */
    private static void loads() {
        for (int w = 0; w < 6; w++) {
            LessonSpiral x = new LessonSpiral();
            for (int t = 0; t < 8; t++) {
                due("19 so far " + w, x.load(w), 10 * t);
                x.topic(0, 9);
                x.put(t, w);
                x.again(t, w);
            }
            due("19 most of all " + w, x.load(w), 80);
            due("20 most of all " + w, x.evenness(), 6400);
            due("19 another week", x.load(5 - w), 0);
            x.snow(w, true);
            due("19 snow leaves the topics " + w, x.load(w), 80);
        }
    }

    /** "it takes 1 hour in each WEEK without SNOW .. its HOURS, RETURN are not looked at". */
    private static void strandLoads() {
        LessonSpiral x = new LessonSpiral();
        for (int n = 0; n <= 8; n++) {
            for (int w = 0; w < 6; w++) {
                due("19 strands " + n + " in " + w, x.load(w), n);
            }
            due("20 strands " + n, x.evenness(), 6 * n * n);
            x.topic(2, n + 1 > 9 ? 9 : n + 1);
        }
        for (int w = 0; w < 6; w++) {
            x.snow(w, true);
            due("19 strands in snow " + w, x.load(w), 0);
            due("20 strands in snow " + w, x.evenness(), (5 - w) * 64);
            due("28 strands in snow " + w, x.due(0, w), 0);
            due("28 strands after snow " + w, x.due(7, 5), 5 - w);
        }
    }

    // ---- Promises 24 to 29: pupils, standards, what is taught

    /** "topics whose FIRST is ahead of it, and that are needed .. by a topic whose FIRST is that WEEK or behind it". */
    private static void lates() {
        for (int needed = -1; needed < 6; needed++) {
            for (int by = -1; by < 6; by++) {
                LessonSpiral x = plain(9, 5);
                x.need(1, 0, true);
                x.put(0, needed);
                x.put(1, by);
                for (int w = 0; w < 6; w++) {
                    boolean must = needed != -1 && needed < w && by >= w;
                    String what = "24 week " + w + ", needed in " + needed + " by one in " + by;
                    due(what, x.late(w, false), must ? 1 : 0);
                    due(what + ", hours", x.late(w, true), must ? 9 : 0);
                }
            }
        }
    }

    /** "needed, by steps from one to one": by seven steps, over one without a FIRST and over a STRAND. */
    private static void lateBySteps() {
        LessonSpiral x = new LessonSpiral();
        for (int t = 0; t < 8; t++) {
            x.topic(t == 3 ? 2 : 0, t + 1);
            x.put(t, t == 5 ? -1 : 0);
        }
        for (int t = 0; t < 7; t++) {
            x.need(t, t + 1, true);
        }
        x.put(0, 5);
        int set = 2 | 4 | 16 | 64 | 128;
        due("24 by steps", x.late(5, false), set);
        due("24 by steps, hours", x.late(5, true), 2 + 3 + 5 + 7 + 8);
        due("24 at the beginning", x.late(0, false), 0);
        x.put(0, 0);
        due("24 none is to come", x.late(1, false), 0);
        x.put(7, 5);
        due("24 what is needed is not what needs", x.late(5, false), 0);
    }

    /** "STANDARDS of all topics that have a FIRST (or are STRANDS), as a set": a FIRST in week 0 and in week 5. */
    private static void metBounds() {
        for (int t = 0; t < 8; t += 7) {
            LessonSpiral x = eight(0);
            x.standards(t, 1 | 1 << 15);
            due("25 without a first", x.met(false), 0);
            due("25 all are missing", x.met(true), 65535);
            due("26 without a first", x.only(0), NONE);
            for (int w = 0; w < 6; w += 5) {
                x.put(t, w);
                due("25 first in " + w, x.met(false), 1 | 1 << 15);
                due("25 missing, first in " + w, x.met(true), 65534 - (1 << 15));
                due("26 standard 0", x.only(0), t);
                due("26 standard 15", x.only(15), t);
                due("26 standard 14", x.only(14), NONE);
            }
            x.put(t, -1);
            x.again(t, 0);
            due("25 a second is no first", x.met(false), 0);
        }
        LessonSpiral y = eight(2);
        y.standards(7, 65535);
        due("25 a strand has all", y.met(false), 65535);
        due("25 none is missing", y.met(true), 0);
        due("26 a strand alone", y.only(15), 7);
        y.standards(0, 1 << 15);
        due("26 the first and the last", y.only(15), NONE);
        due("26 the other standards", y.only(14), 7);
    }

    /** "The topic that alone (of those of met()) has a STANDARD": each of the eight for each standard. */
    private static void onlyOfEight() {
        LessonSpiral x = eight(0);
        for (int t = 0; t < 8; t++) {
            x.put(t, 5);
            x.standards(t, 1 << t | 1 << t + 8);
        }
        for (int standard = 0; standard < 16; standard++) {
            due("26 standard " + standard, x.only(standard), standard % 8);
        }
        for (int t = 0; t < 8; t++) {
            x.standards(t, 65535);
        }
        due("26 all have it", x.only(0), NONE);
        for (int t = 0; t < 6; t++) {
            x.put(t, -1);
        }
        due("26 two are left", x.only(0), NONE);
        x.put(6, -1);
        due("26 one is left", x.only(0), 7);
    }

    /** "Hours of a topic are booked (h from 1 to 100): TAUGHT"; "FULL: it would be above 1000". */
    private static void books() {
        for (int t = 0; t < 8; t += 7) {
            for (int kind = 0; kind < 4; kind++) {
                LessonSpiral x = eight(kind);
                for (int i = 1; i <= 9; i++) {
                    due("27 the most at once", x.book(t, 100), 100 * i);
                }
                due("27 by one", x.book(t, 1), 901);
                due("27 above", x.book(t, 100), FULL);
                due("27 up to 1000", x.book(t, 99), 1000);
                due("27 above by one", x.book(t, 1), FULL);
                due("27 the other topic", x.of(7 - t, 7), 0);
                due("27 undone", x.undo() > 0 ? x.of(t, 7) : 0, 901);
                due("27 then", x.book(t, 99), 1000);
            }
        }
        LessonSpiral y = plain(1);
        for (int i = 1; i <= 10; i++) {
            due("27 ten times the most", y.book(0, 100), 100 * i);
        }
        due("27 full", y.book(0, 1), FULL);
    }

    /** "of a topic whose meetings are in WEEKS up to it (HOURS for FIRST, 1 for SECOND ..)". */
    private static void dues() {
        for (int first = -1; first < 6; first++) {
            for (int second = -1; second < 6; second++) {
                LessonSpiral x = plain(9);
                x.put(0, first);
                x.again(0, second);
                for (int w = 0; w < 6; w++) {
                    int want = (first != -1 && first <= w ? 9 : 0) + (second != -1 && second <= w ? 1 : 0);
                    due("28 due at " + w + " of " + first + " and " + second, x.due(0, w), want);
                    due("29 drift at " + w + " of " + first + " and " + second, x.drift(w), want);
                }
            }
        }
    }

    /** "of a STRAND 1 for each WEEK up to it without SNOW". */
    private static void strandDues() {
        for (int set = 0; set < 64; set++) {
            LessonSpiral x = new LessonSpiral();
            x.topic(2, 9);
            int want = 0;
            for (int w = 0; w < 6; w++) {
                x.snow(w, (set >> w) % 2 == 1);
            }
            for (int w = 0; w < 6; w++) {
                want += (set >> w) % 2 == 1 ? 0 : 1;
                due("28 strand at " + w + ", snow " + set, x.due(0, w), want);
                due("29 strand at " + w + ", snow " + set, x.drift(w), want);
            }
        }
    }

    /** "DUE of all topics at a WEEK, less what is TAUGHT of each up to its DUE". */
    private static void drifts() {
        LessonSpiral x = plain(9, 9);
        x.put(0, 3);
        x.put(1, 3);
        x.again(1, 5);
        due("29 ahead of all", x.drift(2), 0);
        due("29 nothing is taught", x.drift(3), 18);
        x.book(0, 8);
        due("29 one is left of the first", x.drift(3), 10);
        x.book(0, 1);
        due("29 none is left of the first", x.drift(3), 9);
        x.book(0, 1);
        due("29 more than is due helps no other", x.drift(3), 9);
        x.book(1, 9);
        due("29 all is taught", x.drift(3), 0);
        due("29 but the second", x.drift(5), 1);
        due("29 nothing is due yet", x.drift(0), 0);
        LessonSpiral y = new LessonSpiral();
        for (int t = 0; t < 8; t++) {
            y.topic(0, 9);
            y.put(t, 0);
            y.again(t, 5);
        }
        due("29 most of all", y.drift(5), 80);
        due("29 without the seconds", y.drift(4), 72);
    }

    // ---- Promises 30, 31

    /** "The latest 25 are kept": 24, 25 and 26 acts, and many times round. */
    private static void kept() {
        for (int acts : new int[] {1, 2, 23, 24, 25, 26, 27, 49, 50, 51, 75, 76, 100}) {
            LessonSpiral x = new LessonSpiral();
            for (int i = 1; i <= acts; i++) {
                x.room(0, i % 41);
            }
            int most = Math.min(acts, 25);
            for (int left = most - 1; left >= 0; left--) {
                due("30 of " + acts + " left", x.undo(), left);
            }
            due("30 of " + acts + " no more", x.undo(), NONE);
            due("30 of " + acts + " as it was", x.room(0, 0), acts == most ? 10 : (acts - most) % 41);
            due("30 of " + acts + " one more act", x.undo(), 0);
        }
    }

    /** The same where acts and undo() go to and fro over the end of what is kept. */
    private static void keptToAndFro() {
        LessonSpiral x = new LessonSpiral();
        for (int i = 1; i <= 25; i++) {
            x.room(0, i);
        }
        for (int back = 1; back <= 6; back++) {
            for (int i = 1; i <= back; i++) {
                due("30 back " + back + " " + i, x.undo(), 25 - i);
            }
            for (int i = 1; i <= back; i++) {
                due("30 forth " + back + " " + i, x.room(0, 25 - back + i), 25 - back + i - 1);
            }
        }
        x.room(0, 26);
        due("30 the oldest is lost", x.undo(), 24);
        for (int left = 23; left >= 0; left--) {
            due("30 down", x.undo(), left);
        }
        due("30 down to the second", x.room(0, 0), 1);
    }

    /** "also such as changed nothing": each act that is kept, where it leaves all as it is. */
    private static void keptThoughNothingChanged() {
        Act[] acts = {
            x -> x.need(1, 0, true), x -> x.need(0, 1, false), x -> x.comes(0, 2), x -> x.standards(0, 5),
            x -> x.partner(3, 4), x -> x.room(1, 14), x -> x.snow(0, false), x -> x.test(4), x -> x.read(2),
            x -> x.put(0, 0), x -> x.again(1, -1), x -> x.need(0, 0, false), x -> x.read(1),
        };
        for (int i = 0; i < acts.length; i++) {
            LessonSpiral x = behind(Twins::rich);
            x.undo();
            due("30 one is undone " + i, x.undo(), 23);
            acts[i].on(x);
            due("30 kept, though nothing changed " + i, x.undo(), 23);
        }
        LessonSpiral y = new LessonSpiral();
        y.best(true);
        y.least(true);
        y.best(true);
        due("30 plans that changed nothing", y.undo(), 2);
        due("30 plans that changed nothing, next", y.undo(), 1);
    }

    /** Only the acts that the document lists are kept; the others leave all as it was. */
    private static void notKept() {
        Act[] acts = {
            x -> x.as(3, 1), x -> x.of(0, 5), x -> x.fault(), x -> x.load(0), x -> x.evenness(), x -> x.late(3, true),
            x -> x.met(true), x -> x.only(15), x -> x.due(0, 5), x -> x.drift(5), x -> x.told(3),
            x -> x.copy(0, 0, 0, 0, 6), x -> x.copy(1, 3, 1, 3, 0), x -> x.write(0, 0, 12), x -> x.sheet(2, 8, 0),
            x -> x.sheet(3, 0, 0),
        };
        for (int i = 0; i < acts.length; i++) {
            leavesAll("30 not kept " + i, Twins::rich, acts[i]);
        }
        Act few = x -> x.topic(0, 3) + x.topic(3, 2) + x.comes(1, 9) + x.put(0, 4) + x.again(0, 4);
        leavesAll("30 best that does not take", few, x -> x.best(false));
        leavesAll("30 plans", few, x -> x.plans());
        leavesAll("30 least that does not take", few, x -> x.least(false));
    }

    /** "The latest act that changed topics, WEEKS, THE TEST, THE PLAN or TAUGHT .. is undone": each act, whole. */
    private static void undoneWhole() {
        Act[] acts = {
            x -> x.topic(3, 9), x -> x.need(0, 6, true), x -> x.need(3, 1, false), x -> x.comes(0, 0),
            x -> x.standards(6, 65535), x -> x.partner(3, -1), x -> x.room(5, 40), x -> x.snow(2, false),
            x -> x.snow(5, true), x -> x.test(0), x -> x.read(0), x -> x.put(0, -1), x -> x.again(0, 5),
            x -> x.book(6, 100),
        };
        for (int i = 0; i < acts.length; i++) {
            Act act = acts[i];
            // The act has taken the oldest one's place, so what more can be undone is not looked at.
            same("30 undone whole " + i,
                Sight.of(behind(x -> rich(x) + act.on(x) + x.undo())), Sight.of(behind(Twins::rich)));
        }
        Act few = x -> x.topic(0, 3) + x.topic(3, 2) + x.comes(1, 9) + x.put(0, 4) + x.again(0, 4);
        leavesAll("30 best, undone", few, x -> x.best(true) + x.undo());
        leavesAll("30 least, undone", few, x -> x.least(true) + x.undo());
    }

    /** Sheets and findings are not among what undo() brings back. */
    private static void neverUndone() {
        LessonSpiral x = new LessonSpiral();
        x.room(0, 20);
        fill(x, 0, 5, 6);
        x.topic(9, 9);
        due("30 the room", x.undo(), 0);
        due("30 findings stay", x.told(3), 1);
        holds("30 sheets stay", x, 0, 5, 6);
    }

    /** "3 how many acts answered a finding ever (this one, too, if it does)". */
    private static void toldBounds() {
        LessonSpiral x = new LessonSpiral();
        due("31 none", x.told(3), 0);
        due("31 above", x.told(4), BEYOND);
        due("31 that one, too", x.told(3), 1);
        due("31 below", x.told(-1), BEYOND);
        due("31 that one, too, below", x.told(3), 2);
        x.topic(0, 1);
        x.put(0, -1);
        x.again(0, -1);
        x.of(0, 5);
        due("31 -1 is no finding", x.told(3), 2);
        x.undo();
        x.undo();
        x.undo();
        due("31 undo leaves them", x.told(3), 2);
        x.undo();
        due("31 undo that finds none", x.told(3), 3);
    }

    public static void main(String[] args) {
        last512();
        findings();
        sets();
        newObject();
        topicEdges();
        weekEdges();
        sheetEdges();
        planEdges();
        undoEdges();
        toldBounds();
        end();
    }

    private static void topicEdges() {
        eightTopics();
        noneBehindTheEighth();
        topicAtFirst();
        kindsUnder();
        needOnAndOff();
        needWithoutRing();
        returns();
        standards();
        partners();
        ofFirstAndLast();
    }

    private static void weekEdges() {
        rooms();
        snows();
        tests();
    }

    private static void sheetEdges() {
        sheetSizes();
        sheetAnew();
        sheetMissing();
        lowestBits();
        copies();
        copiesOverItself();
        copiesOfBits();
        readsSome();
        readsSnow();
    }

    private static void planEdges() {
        meetings();
        loads();
        strandLoads();
        lates();
        lateBySteps();
        metBounds();
        onlyOfEight();
        books();
        dues();
        strandDues();
        drifts();
    }

    private static void undoEdges() {
        kept();
        keptToAndFro();
        keptThoughNothingChanged();
        notKept();
        undoneWhole();
        neverUndone();
    }
}
