/** Each promise of the document by hand: ordinary inputs, the edges that it names, and wrong inputs. */
public final class PromisesTest extends Check {
    private static void newObject() {
        LessonSpiral x = new LessonSpiral();
        due("1 topics", x.told(0), 0);
        due("1 snow", x.told(1), 0);
        due("1 test", x.told(2), 6);
        due("1 findings", x.told(3), 0);
        due("1 fault", x.fault(), 0);
        due("1 evenness", x.evenness(), 0);
        for (int s = 0; s < 4; s++) {
            due("1 sheet " + s, x.read(s), MISSING);
        }
        for (int w = 0; w < 6; w++) {
            due("1 snow " + w, x.snow(w, false), 0);
            due("1 room " + w, x.room(w, 10), 10);
        }
        due("1 nothing of no topic", x.of(0, 0), BEYOND);
    }

    private static void topic() {
        LessonSpiral x = new LessonSpiral();
        int[][] bad = {{-1, 1}, {4, 1}, {0, 0}, {0, 10}, {MIN, 1}, {MAX, 1}, {0, MIN}, {0, MAX}};
        for (int[] b : bad) {
            due("2 topic beyond " + b[0] + " " + b[1], x.topic(b[0], b[1]), BEYOND);
        }
        for (int t = 0; t < 8; t++) {
            due("2 topic " + t, x.topic(t % 4, t + 1), t);
            due("2 kind " + t, x.of(t, 0), t % 4);
            due("2 hours " + t, x.of(t, 1), t + 1);
            due("2 needs " + t, x.of(t, 2), 0);
            due("2 return " + t, x.of(t, 3), 0);
            due("2 standards " + t, x.of(t, 4), 0);
            due("2 first " + t, x.of(t, 5), -1);
            due("2 second " + t, x.of(t, 6), -1);
            due("2 taught " + t, x.of(t, 7), 0);
        }
        due("2 full", x.topic(0, 9), FULL);
        due("2 beyond ahead of full", x.topic(4, 9), BEYOND);
        due("2 still eight", x.told(0), 8);
        due("2 nine hours", new LessonSpiral().topic(3, 9), 0);
    }

    private static void as() {
        LessonSpiral x = fourKinds();
        int[][] want = {
            {0, KIND, KIND, KIND},
            {1, 1, KIND, KIND},
            {2, KIND, 2, KIND},
            {3, 3, KIND, 3},
        };
        for (int t = 0; t < 4; t++) {
            for (int k = 0; k < 4; k++) {
                due("3 as " + t + " " + k, x.as(t, k), want[t][k]);
            }
        }
        due("3 no kind", x.as(0, 4), BEYOND);
        due("3 no kind below", x.as(0, -1), BEYOND);
        due("3 no topic", x.as(4, 0), BEYOND);
        due("3 no topic below", x.as(-1, 0), BEYOND);
        due("3 findings", x.told(3), 8 + 4);
    }

    private static void need() {
        LessonSpiral x = plain(1, 1, 1, 1);
        due("4 new", x.need(0, 1, true), 1);
        due("4 not new", x.need(0, 1, true), 0);
        due("4 second", x.need(1, 2, true), 1);
        due("4 other way", x.need(1, 0, true), RING);
        due("4 long way", x.need(2, 0, true), RING);
        due("4 itself", x.need(3, 3, true), RING);
        due("4 nothing changed", x.of(2, 2), 0);
        due("4 both ways to one", x.need(0, 2, true), 1);
        due("4 set", x.of(0, 2), 6);
        due("4 no more", x.need(0, 1, false), 1);
        due("4 no more again", x.need(0, 1, false), 0);
        due("4 set after", x.of(0, 2), 4);
        due("4 ring by the other way still", x.need(2, 0, true), RING);
        due("4 no ring any more", x.need(1, 0, true), 1);
        due("4 off makes no ring", x.need(2, 1, false), 0);
        due("4 itself off", x.need(3, 3, false), 0);
        due("4 no topic", x.need(4, 0, true), BEYOND);
        due("4 no topic below", x.need(-1, 0, true), BEYOND);
        due("4 no other", x.need(0, 4, true), BEYOND);
        due("4 no other below", x.need(0, -1, false), BEYOND);
        due("4 beyond ahead of ring", x.need(7, 7, true), BEYOND);
        longRing();
    }

    private static void longRing() {
        LessonSpiral x = plain(1, 1, 1, 1, 1, 1, 1, 1);
        // Against the order of numbers, so that one round over the topics finds one step alone.
        for (int t = 0; t < 7; t++) {
            due("4 chain " + t, x.need(t + 1, t, true), 1);
        }
        due("4 round all", x.need(0, 7, true), RING);
        LessonSpiral y = plain(1, 1, 1, 1, 1, 1, 1, 1);
        for (int t = 0; t < 7; t++) {
            due("4 chain down " + t, y.need(t, t + 1, true), 1);
        }
        due("4 round all down", y.need(7, 0, true), RING);
    }

    private static void comes() {
        LessonSpiral x = fourKinds();
        due("5 at first", x.comes(0, 9), 0);
        due("5 then", x.comes(0, 0), 9);
        due("5 none again", x.of(0, 3), 0);
        due("5 joint", x.comes(3, 1), 0);
        due("5 of", x.of(3, 3), 1);
        due("5 above", x.comes(0, 10), BEYOND);
        due("5 below", x.comes(0, -1), BEYOND);
        due("5 no topic", x.comes(4, 1), BEYOND);
        due("5 no topic below", x.comes(-1, 1), BEYOND);
        due("5 strand", x.comes(2, 1), KIND);
        due("5 beyond ahead of kind", x.comes(2, 10), BEYOND);
        due("5 strand's stays", x.of(2, 3), 0);
    }

    private static void standards() {
        LessonSpiral x = fourKinds();
        due("6 at first", x.standards(2, 65535), 0);
        due("6 then", x.standards(2, 1), 65535);
        due("6 of", x.of(2, 4), 1);
        due("6 none", x.standards(2, 0), 1);
        due("6 was none", x.standards(2, 1), 0);
        due("6 bit 16", x.standards(0, 65536), BEYOND);
        due("6 below", x.standards(0, -1), BEYOND);
        due("6 lowest", x.standards(0, MIN), BEYOND);
        due("6 highest", x.standards(0, MAX), BEYOND);
        due("6 no topic", x.standards(4, 0), BEYOND);
        due("6 no topic below", x.standards(-1, 0), BEYOND);
        due("6 nothing changed", x.of(0, 4), 0);
    }

    private static void partner() {
        LessonSpiral x = fourKinds();
        due("7 at first", x.partner(3, 0), -1);
        due("7 then", x.partner(3, 2), 0);
        due("7 none", x.partner(3, -1), 2);
        due("7 was none", x.partner(3, -1), -1);
        due("7 no finding", x.told(3), 0);
        due("7 one", x.partner(3, 3), SIZE);
        due("7 topic", x.partner(0, 1), KIND);
        due("7 tested", x.partner(1, 0), KIND);
        due("7 strand", x.partner(2, 0), KIND);
        due("7 kind ahead of size", x.partner(1, 1), KIND);
        due("7 no other", x.partner(3, 4), BEYOND);
        due("7 no other below", x.partner(3, -2), BEYOND);
        due("7 no topic", x.partner(4, 0), BEYOND);
        due("7 no topic below", x.partner(-1, -1), BEYOND);
        due("7 beyond ahead of kind", x.partner(0, 4), BEYOND);
    }

    private static void of() {
        LessonSpiral x = fourKinds();
        x.need(3, 0, true);
        x.need(3, 2, true);
        x.comes(3, 5);
        x.standards(3, 33);
        x.put(3, 2);
        x.again(3, 4);
        x.book(3, 7);
        int[] want = {3, 4, 5, 5, 33, 2, 4, 7};
        for (int what = 0; what < 8; what++) {
            due("8 of " + what, x.of(3, what), want[what]);
        }
        due("8 what above", x.of(3, 8), BEYOND);
        due("8 what below", x.of(3, -1), BEYOND);
        due("8 no topic", x.of(4, 0), BEYOND);
        due("8 no topic below", x.of(-1, 0), BEYOND);
        due("8 farthest", x.of(MAX, MAX), BEYOND);
        due("8 farthest below", x.of(MIN, MIN), BEYOND);
    }

    private static void room() {
        LessonSpiral x = new LessonSpiral();
        for (int w = 0; w < 6; w++) {
            due("9 at first " + w, x.room(w, 40 - w), 10);
        }
        for (int w = 0; w < 6; w++) {
            due("9 then " + w, x.room(w, 0), 40 - w);
        }
        due("9 week above", x.room(6, 1), BEYOND);
        due("9 week below", x.room(-1, 1), BEYOND);
        due("9 v above", x.room(0, 41), BEYOND);
        due("9 v below", x.room(0, -1), BEYOND);
        due("9 nothing changed", x.room(0, 1), 0);
    }

    private static void snow() {
        LessonSpiral x = new LessonSpiral();
        due("10 new", x.snow(0, true), 1);
        due("10 not new", x.snow(0, true), 0);
        due("10 other", x.snow(5, true), 1);
        due("10 two", x.told(1), 2);
        due("10 off", x.snow(0, false), 1);
        due("10 off again", x.snow(0, false), 0);
        due("10 one", x.told(1), 1);
        due("10 above", x.snow(6, true), BEYOND);
        due("10 below", x.snow(-1, false), BEYOND);
    }

    private static void test() {
        LessonSpiral x = new LessonSpiral();
        due("11 at first", x.test(0), 6);
        due("11 then", x.test(6), 0);
        due("11 same", x.test(6), 6);
        due("11 above", x.test(7), BEYOND);
        due("11 below", x.test(-1), BEYOND);
        due("11 stays", x.told(2), 6);
    }

    private static void sheet() {
        LessonSpiral x = new LessonSpiral();
        due("12 eight", x.sheet(0, 8, 6), 6);
        due("12 sixteen", x.sheet(1, 16, 1), 1);
        due("12 thirty-two", x.sheet(3, 32, 0), 0);
        due("12 empty is read", x.read(3), 0);
        due("12 all zero", x.read(0), 6);
        due("12 room is zero", x.room(5, 0), 0);
        x.write(1, 0, 7);
        due("12 anew", x.sheet(1, 16, 1), 1);
        due("12 anew is read", x.read(1), 1);
        due("12 anew is zero", x.room(0, 0), 0);
        due("12 missing", x.sheet(1, 0, 3), 0);
        due("12 is missing", x.read(1), MISSING);
        due("12 missing, of none", x.sheet(1, 0, 0), 0);
        due("12 no sheet", x.sheet(4, 8, 1), BEYOND);
        due("12 no sheet below", x.sheet(-1, 8, 1), BEYOND);
        int[] bits = {-8, 1, 7, 9, 24, 64, MIN, MAX};
        for (int b : bits) {
            due("12 bits " + b, x.sheet(0, b, 1), BEYOND);
        }
        due("12 bits ahead of size", x.sheet(0, 7, -1), BEYOND);
        due("12 size", x.sheet(0, 8, -1), SIZE);
        due("12 size of missing", x.sheet(0, 0, -1), SIZE);
        due("12 size lowest", x.sheet(0, 32, MIN), SIZE);
        due("12 above", x.sheet(0, 8, 7), BEYOND);
        due("12 above, missing", x.sheet(0, 0, 7), BEYOND);
        due("12 above highest", x.sheet(0, 8, MAX), BEYOND);
        due("12 a finding leaves it", x.read(0), 6);
    }

    private static void write() {
        // {bits, v, the room that it tells; -1 for snow, 99 for a finding}
        int[][] rows = {
            {8, 40, 40}, {8, 256 + 9, 9}, {8, 127, 99}, {8, 128, -1}, {8, 255, -1}, {8, -256, 0}, {8, MIN, 0},
            {16, 41, 99}, {16, 65536 + 3, 3}, {16, 32768, -1}, {16, 32767, 99}, {16, 256, 99}, {16, MAX, -1},
            {32, 65536, 99}, {32, MIN, -1}, {32, MAX, 99}, {32, 12, 12},
        };
        for (int[] r : rows) {
            LessonSpiral x = new LessonSpiral();
            x.sheet(2, r[0], 3);
            due("13 write", x.write(2, 0, r[1]), 0);
            due("13 bits of " + r[1] + " in " + r[0], x.read(2), r[2] == 99 ? BEYOND : 3);
            due("13 snow of " + r[1], x.told(1), r[2] == -1 ? 1 : 0);
            due("13 room of " + r[1], x.room(0, 0), r[2] == -1 || r[2] == 99 ? 10 : r[2]);
        }
        LessonSpiral x = new LessonSpiral();
        x.sheet(2, 8, 3);
        due("13 last", x.write(2, 2, 1), 0);
        due("13 behind last", x.write(2, 3, 1), BEYOND);
        due("13 below", x.write(2, -1, 1), BEYOND);
        due("13 highest", x.write(2, MAX, 1), BEYOND);
        due("13 lowest", x.write(2, MIN, 1), BEYOND);
        due("13 missing", x.write(0, 0, 1), MISSING);
        due("13 missing ahead of number", x.write(0, 9, 1), MISSING);
        due("13 no sheet", x.write(4, 0, 1), BEYOND);
        due("13 no sheet below", x.write(-1, 0, 1), BEYOND);
    }

    private static void copy() {
        LessonSpiral x = new LessonSpiral();
        fill(x, 0, 1, 2, 3, 4, 5, 6);
        fill(x, 1, 11, 12, 13, 14);
        due("14 to another", x.copy(0, 2, 1, 1, 3), 3);
        holds("14 to another", x, 1, 11, 3, 4, 5);
        holds("14 source stays", x, 0, 1, 2, 3, 4, 5, 6);
        due("14 up over itself", x.copy(0, 0, 0, 1, 5), 5);
        holds("14 up over itself", x, 0, 1, 1, 2, 3, 4, 5);
        due("14 down over itself", x.copy(0, 2, 0, 0, 4), 4);
        holds("14 down over itself", x, 0, 2, 3, 4, 5, 4, 5);
        due("14 none", x.copy(0, 6, 1, 4, 0), 0);
        due("14 source too short", x.copy(1, 2, 0, 0, 3), BEYOND);
        due("14 target too short", x.copy(0, 0, 1, 2, 3), BEYOND);
        due("14 from behind all", x.copy(0, 7, 1, 0, 0), BEYOND);
        due("14 to behind all", x.copy(0, 0, 1, 5, 0), BEYOND);
        due("14 from below", x.copy(0, -1, 1, 0, 1), BEYOND);
        due("14 to below", x.copy(0, 0, 1, -1, 1), BEYOND);
        due("14 n below", x.copy(0, 0, 1, 0, -1), BEYOND);
        due("14 sum beyond int", x.copy(0, MAX, 1, 0, MAX), BEYOND);
        due("14 sum beyond int, to", x.copy(0, 0, 1, MAX, 1), BEYOND);
        due("14 lowest", x.copy(0, MIN, 1, MIN, MIN), BEYOND);
        due("14 highest n", x.copy(0, 1, 1, 1, MAX), BEYOND);
        copyOrder(x);
        holds("14 findings change nothing", x, 0, 2, 3, 4, 5, 4, 5);
        holds("14 nor there", x, 1, 11, 3, 4, 5);
    }

    private static void copyOrder(LessonSpiral x) {
        x.sheet(2, 16, 6);
        due("14 kind", x.copy(0, 0, 2, 0, 1), KIND);
        due("14 kind ahead of beyond", x.copy(0, -1, 2, 0, 9), KIND);
        due("14 source missing", x.copy(3, 0, 0, 0, 1), MISSING);
        due("14 target missing", x.copy(0, 0, 3, 0, 1), MISSING);
        due("14 missing ahead of beyond", x.copy(3, -1, 3, 0, -1), MISSING);
        due("14 no source", x.copy(4, 0, 3, 0, 1), BEYOND);
        due("14 no target", x.copy(3, 0, 4, 0, 1), BEYOND);
        due("14 no source below", x.copy(-1, 0, 0, 0, 1), BEYOND);
        due("14 no target below", x.copy(0, 0, -1, 0, 1), BEYOND);
    }

    private static void read() {
        LessonSpiral x = new LessonSpiral();
        x.snow(0, true);
        x.snow(5, true);
        fill(x, 1, 0, -1, 40);
        due("15 read", x.read(1), 3);
        due("15 snow off, on, stays", x.told(1), 2);
        due("15 no snow in 0", x.snow(0, false), 0);
        due("15 snow in 1", x.snow(1, true), 0);
        due("15 snow in 5 stays", x.snow(5, true), 0);
        due("15 room 0", x.room(0, 10), 0);
        due("15 room 1 stays", x.room(1, 10), 10);
        due("15 room 2", x.room(2, 10), 40);
        due("15 room 3 stays", x.room(3, 10), 10);
        fill(x, 2, 7, 7, 41);
        due("15 above", x.read(2), BEYOND);
        due("15 nothing is read", x.room(0, 10), 10);
        due("15 snow is as it was", x.told(1), 2);
        due("15 missing", x.read(0), MISSING);
        due("15 no sheet", x.read(4), BEYOND);
        due("15 no sheet below", x.read(-1), BEYOND);
    }

    private static void put() {
        LessonSpiral x = fourKinds();
        due("16 at first", x.put(0, 5), -1);
        due("16 then", x.put(0, 0), 5);
        due("16 of", x.of(0, 5), 0);
        due("16 none", x.put(0, -1), 0);
        due("16 was none", x.put(0, -1), -1);
        due("16 second stays", x.of(0, 6), -1);
        due("16 no finding", x.told(3), 0);
        due("16 week above", x.put(0, 6), BEYOND);
        due("16 week below", x.put(0, -2), BEYOND);
        due("16 no topic", x.put(4, 0), BEYOND);
        due("16 no topic below", x.put(-1, 0), BEYOND);
        due("16 strand", x.put(2, 0), KIND);
        due("16 strand, none", x.put(2, -1), KIND);
        due("16 beyond ahead of kind", x.put(2, 6), BEYOND);
    }

    private static void again() {
        LessonSpiral x = fourKinds();
        due("17 at first", x.again(3, 5), -1);
        due("17 then", x.again(3, 0), 5);
        due("17 of", x.of(3, 6), 0);
        due("17 first stays", x.of(3, 5), -1);
        due("17 none", x.again(3, -1), 0);
        due("17 week above", x.again(3, 6), BEYOND);
        due("17 week below", x.again(3, -2), BEYOND);
        due("17 no topic", x.again(4, 0), BEYOND);
        due("17 no topic below", x.again(-1, 0), BEYOND);
        due("17 strand", x.again(2, 0), KIND);
        due("17 beyond ahead of kind", x.again(2, 6), BEYOND);
    }

    private static void fault() {
        LessonSpiral x = plain(3, 3, 3);
        x.need(0, 1, true);
        due("18 law 1", x.fault(), 100);
        x.put(0, 1);
        due("18 law 1, next", x.fault(), 101);
        x.put(1, 1);
        x.snow(1, true);
        due("18 law 1 ahead of 2", x.fault(), 102);
        x.put(2, 1);
        due("18 law 2", x.fault(), 200);
        x.put(0, 0);
        due("18 law 2 ahead of 3", x.fault(), 201);
        x.snow(1, false);
        due("18 law 3", x.fault(), 300);
        x.put(1, 0);
        due("18 law 3, one week", x.fault(), 300);
        x.put(0, 1);
        due("18 whole", x.fault(), 0);
        faultOfReturn();
        faultOfTest();
        faultOfPartner();
        faultOfRoom();
        faultBesideStrands();
    }

    private static void faultOfReturn() {
        LessonSpiral x = plain(1, 1);
        x.put(0, 2);
        x.put(1, 2);
        x.again(1, 3);
        due("18 law 4, second without return", x.fault(), 401);
        x.comes(1, 2);
        due("18 law 4, by 1", x.fault(), 0);
        x.again(1, 4);
        due("18 law 4, by return", x.fault(), 0);
        x.again(1, 5);
        due("18 law 4, too late", x.fault(), 401);
        x.again(1, 2);
        due("18 law 4, same week", x.fault(), 401);
        x.again(1, 1);
        due("18 law 4, ahead", x.fault(), 401);
        x.again(1, -1);
        due("18 law 4, none", x.fault(), 401);
        x.again(1, 3);
        x.snow(3, true);
        due("18 law 4, snow", x.fault(), 401);
        x.comes(1, 0);
        due("18 law 4, without return in snow", x.fault(), 401);
    }

    private static void faultOfTest() {
        for (int kind = 0; kind < 4; kind++) {
            if (kind == 2) {
                continue;
            }
            int broken = kind == 0 ? 0 : 500;
            LessonSpiral x = new LessonSpiral();
            x.topic(kind, 1);
            x.put(0, 2);
            x.test(3);
            due("18 law 5, ahead, kind " + kind, x.fault(), 0);
            x.test(2);
            due("18 law 5, in the week, kind " + kind, x.fault(), broken);
            x.test(0);
            due("18 law 5, behind, kind " + kind, x.fault(), broken);
            x.test(4);
            x.comes(0, 9);
            x.again(0, 3);
            due("18 law 5, second ahead, kind " + kind, x.fault(), 0);
            x.test(3);
            due("18 law 5, second in the week, kind " + kind, x.fault(), broken);
        }
    }

    private static void faultOfPartner() {
        LessonSpiral x = fourKinds();
        x.put(0, 0);
        x.put(1, 1);
        x.put(3, 2);
        due("18 law 5, no partner", x.fault(), 0);
        x.partner(3, 0);
        due("18 law 5, partner elsewhere", x.fault(), 503);
        x.put(0, 2);
        due("18 law 5, partner beside", x.fault(), 0);
        x.partner(3, 2);
        due("18 law 5, partner a strand", x.fault(), 0);
        x.partner(3, 1);
        x.test(1);
        due("18 law 5 by topics", x.fault(), 501);
        x.put(3, 1);
        x.put(1, 0);
        due("18 law 5, the joint one", x.fault(), 503);
        x.put(3, 0);
        due("18 law 5, both kept", x.fault(), 0);
    }

    private static void faultOfRoom() {
        LessonSpiral x = plain(5, 5);
        x.put(0, 3);
        x.put(1, 3);
        due("18 law 7, as much as the room", x.fault(), 0);
        x.room(3, 9);
        due("18 law 7", x.fault(), 703);
        x.put(1, 5);
        x.room(5, 4);
        due("18 law 7, another week", x.fault(), 705);
        x.room(3, 4);
        due("18 law 7 by weeks", x.fault(), 703);
        x.topic(2, 9);
        x.room(3, 10);
        x.room(5, 5);
        due("18 law 7, strands count", x.fault(), 705);
        x.room(0, 0);
        due("18 law 7, a strand alone", x.fault(), 700);
        x.snow(0, true);
        due("18 laws 6 and 7, a strand in snow takes none", x.fault(), 705);
    }

    private static void faultBesideStrands() {
        LessonSpiral x = new LessonSpiral();
        x.topic(2, 1);
        x.topic(0, 1);
        due("18 a strand has no first", x.fault(), 101);
        x.put(1, 0);
        x.need(1, 0, true);
        due("18 a strand is met ahead of all", x.fault(), 0);
        x.topic(0, 1);
        x.put(2, 4);
        x.need(0, 2, true);
        due("18 what a strand needs is not looked at", x.fault(), 0);
        LessonSpiral y = plain(1, 1);
        y.need(1, 0, true);
        y.put(0, 3);
        y.put(1, 3);
        due("18 law 3, the second topic", y.fault(), 301);
        y.put(1, 4);
        due("18 law 3, kept by it", y.fault(), 0);
    }

    private static void load() {
        LessonSpiral x = plain(9, 4);
        x.topic(2, 7);
        x.topic(2, 7);
        x.put(0, 1);
        x.put(1, 1);
        x.again(0, 1);
        x.again(1, 5);
        int[] want = {2, 16, 2, 2, 2, 3};
        for (int w = 0; w < 6; w++) {
            due("19 load " + w, x.load(w), want[w]);
        }
        x.snow(1, true);
        LessonSpiral y = new LessonSpiral();
        y.topic(2, 9);
        due("19 the first topic a strand", y.load(0), 1);
        due("19 snow takes strands alone", x.load(1), 14);
        due("19 above", x.load(6), BEYOND);
        due("19 below", x.load(-1), BEYOND);
    }

    private static void evenness() {
        LessonSpiral x = plain(9, 4);
        x.put(0, 0);
        due("20 one", x.evenness(), 81);
        x.put(1, 0);
        due("20 together", x.evenness(), 169);
        x.again(1, 5);
        due("20 second", x.evenness(), 170);
        x.topic(2, 1);
        due("20 strand", x.evenness(), 196 + 4 * 1 + 4);
        x.snow(3, true);
        due("20 snow", x.evenness(), 196 + 3 * 1 + 4);
    }

    private static void best() {
        LessonSpiral x = plain(2, 3);
        due("21 even", x.best(false), 13);
        due("21 not taken", x.of(0, 5), -1);
        due("21 taken", x.best(true), 13);
        due("21 first topic first", x.of(0, 5), 0);
        due("21 first told", x.of(1, 5), 1);
        due("21 no second", x.of(1, 6), -1);
        x.need(0, 1, true);
        due("21 order of needs", x.best(true), 13);
        due("21 needing", x.of(0, 5), 1);
        due("21 needed", x.of(1, 5), 0);
        x.again(0, 5);
        due("21 second is cleared", x.best(true), 13);
        due("21 second is gone", x.of(0, 6), -1);
        bestWithReturns();
        bestFindings();
    }

    private static void bestWithReturns() {
        LessonSpiral x = plain(1, 1);
        x.comes(0, 2);
        x.comes(1, 9);
        due("21 returns", x.best(true), 4);
        due("21 returns, first of 0", x.of(0, 5), 0);
        due("21 returns, second of 0", x.of(0, 6), 1);
        due("21 returns, first of 1", x.of(1, 5), 2);
        due("21 returns, second of 1", x.of(1, 6), 3);
        x.snow(1, true);
        x.snow(2, true);
        due("21 snow between", x.best(true), 4);
        due("21 snow, first of 0", x.of(0, 5), 3);
        due("21 snow, second of 0", x.of(0, 6), 4);
        due("21 snow, first of 1", x.of(1, 5), 0);
        due("21 snow, second of 1", x.of(1, 6), 5);
    }

    private static void bestFindings() {
        LessonSpiral x = plain(1, 1, 1, 1);
        x.topic(2, 1);
        due("21 four and a strand", x.best(true), 3 * 4 + 4 + 2);
        x.topic(0, 1);
        due("21 five", x.best(true), LONG);
        due("21 nothing taken", x.of(0, 5), 0);
        LessonSpiral y = plain(9);
        for (int w = 0; w < 6; w++) {
            y.room(w, 8);
        }
        due("21 none", y.best(true), NONE);
        due("21 still none", y.of(0, 5), -1);
        y.room(4, 9);
        due("21 one", y.best(true), 81);
        due("21 there", y.of(0, 5), 4);
        LessonSpiral z = new LessonSpiral();
        due("21 nothing", z.best(true), 0);
        due("21 nothing can be undone", z.undo(), 0);
    }

    private static void plans() {
        LessonSpiral x = new LessonSpiral();
        due("22 no topics", x.plans(), 1);
        x.topic(0, 5);
        due("22 one", x.plans(), 6);
        x.comes(0, 9);
        due("22 with a return", x.plans(), 15);
        x.room(5, 0);
        due("22 no room for a second", x.plans(), 10);
        x.room(5, 10);
        x.comes(0, 1);
        due("22 with a near return", x.plans(), 5);
        x.snow(2, true);
        due("22 with snow", x.plans(), 3);
        x.topic(0, 5);
        due("22 two", x.plans(), 3 * 5);
        x.need(1, 0, true);
        due("22 in order", x.plans(), 4 + 2 + 1);
        x.room(5, 5);
        due("22 with less room", x.plans(), 4 + 2);
        x.topic(2, 1);
        due("22 with a strand", x.plans(), 3 + 1);
        x.room(0, 0);
        due("22 a strand has no room", x.plans(), 0);
        due("22 no finding", x.told(3), 0);
        plansOfKinds();
        LessonSpiral y = plain(1, 1, 1, 1);
        for (int t = 0; t < 4; t++) {
            y.comes(t, 9);
        }
        due("22 most of all", y.plans(), 15 * 15 * 15 * 15);
        y.topic(0, 1);
        due("22 long", y.plans(), LONG);
    }

    private static void plansOfKinds() {
        LessonSpiral x = fourKinds();
        due("22 kinds", x.plans(), 216);
        x.partner(3, 0);
        due("22 partners", x.plans(), 36);
        x.partner(3, 2);
        due("22 a partner that is a strand", x.plans(), 216);
        x.partner(3, 1);
        x.test(2);
        due("22 tested", x.plans(), 6 * 2);
        x.need(3, 1, true);
        due("22 partner ahead", x.plans(), 0);
    }

    private static void least() {
        LessonSpiral x = plain(2, 3, 1);
        due("23 from none", x.least(false), 3);
        x.put(0, 4);
        x.put(1, 4);
        x.put(2, 1);
        due("23 whole as it is", x.least(true), 0);
        due("23 stays uneven", x.of(1, 5), 4);
        x.snow(4, true);
        due("23 two move", x.least(true), 2);
        due("23 first told of most even", x.of(0, 5), 0);
        due("23 next", x.of(1, 5), 2);
        due("23 the third stays", x.of(2, 5), 1);
        x.again(2, 5);
        due("23 a second too many", x.least(false), 1);
        due("23 not taken", x.of(2, 6), 5);
        due("23 taken", x.least(true), 1);
        due("23 gone", x.of(2, 6), -1);
        x.comes(2, 3);
        due("23 a second too few", x.least(true), 1);
        due("23 most even", x.of(2, 6), 3);
        leastBesideEvenness();
        LessonSpiral y = plain(1, 1, 1, 1, 1);
        due("23 long", y.least(false), LONG);
        LessonSpiral z = plain(2);
        for (int w = 0; w < 6; w++) {
            z.room(w, 1);
        }
        due("23 none", z.least(true), NONE);
        due("23 none is kept", z.undo(), 6);
        due("23 nothing", new LessonSpiral().least(true), 0);
    }

    private static void leastBesideEvenness() {
        LessonSpiral x = plain(5, 4, 3);
        x.put(0, 0);
        x.put(1, 0);
        x.put(2, 0);
        due("23 one of three moves", x.least(true), 1);
        due("23 the greatest moves", x.of(0, 5), 1);
        due("23 the others stay", x.of(1, 5) + x.of(2, 5), 0);
        due("23 evenness", x.evenness(), 25 + 49);
    }

    private static void late() {
        LessonSpiral x = plain(1, 2, 3, 4);
        x.need(3, 2, true);
        x.need(2, 1, true);
        x.need(1, 0, true);
        x.put(0, 0);
        x.put(1, 1);
        x.put(2, 3);
        x.put(3, 5);
        due("24 at once", x.late(0, false), 0);
        due("24 one", x.late(1, false), 1);
        due("24 steps", x.late(3, false), 3);
        due("24 more steps", x.late(5, false), 7);
        due("24 hours", x.late(5, true), 6);
        x.put(2, -1);
        due("24 by one without a week", x.late(5, false), 3);
        x.put(3, 4);
        due("24 none to come", x.late(5, false), 0);
        due("24 no hours", x.late(5, true), 0);
        due("24 in that week", x.late(4, true), 3);
        due("24 above", x.late(6, true), BEYOND);
        due("24 below", x.late(-1, false), BEYOND);
        LessonSpiral y = new LessonSpiral();
        y.topic(0, 9);
        y.topic(2, 8);
        y.topic(0, 7);
        y.need(2, 1, true);
        y.need(1, 0, true);
        y.put(0, 0);
        y.put(2, 2);
        due("24 by a strand, but not the strand", y.late(2, false), 1);
        due("24 unneeded", y.late(1, true), 9);
        y.need(1, 0, false);
        due("24 nothing is needed", y.late(2, true), 0);
        LessonSpiral z = plain(1, 2);
        z.need(0, 1, true);
        z.put(1, 0);
        due("24 needed by one without a week", z.late(1, false), 0);
    }

    private static void met() {
        LessonSpiral x = fourKinds();
        x.standards(0, 1);
        x.standards(1, 3);
        x.standards(2, 1 << 15);
        x.standards(3, 8);
        due("25 strands alone", x.met(false), 1 << 15);
        due("25 missing", x.met(true), 0x7FFF);
        x.put(1, 0);
        due("25 first", x.met(false), 3 | 1 << 15);
        x.again(3, 0);
        due("25 a second is none", x.met(false), 3 | 1 << 15);
        due("25 missing then", x.met(true), 0x7FFC);
        x.standards(2, 65535);
        due("25 all", x.met(false), 65535);
        due("25 none missing", x.met(true), 0);
        x.standards(2, 0);
        x.put(1, -1);
        x.put(0, 5);
        due("25 topic 0", x.met(false), 1);
    }

    private static void only() {
        LessonSpiral x = fourKinds();
        x.standards(0, 1);
        x.standards(1, 3);
        x.standards(2, 1 << 15);
        x.standards(3, 2);
        due("26 a strand", x.only(15), 2);
        due("26 none with a first", x.only(0), NONE);
        x.put(1, 5);
        due("26 alone", x.only(0), 1);
        due("26 alone, too", x.only(1), 1);
        x.put(0, 0);
        due("26 two", x.only(0), NONE);
        x.put(3, 0);
        due("26 two, too", x.only(1), NONE);
        x.put(1, -1);
        due("26 topic 0", x.only(0), 0);
        due("26 topic 3", x.only(1), 3);
        due("26 no such", x.only(16), BEYOND);
        due("26 below", x.only(-1), BEYOND);
        due("26 far", x.only(32), BEYOND);
    }

    private static void book() {
        LessonSpiral x = fourKinds();
        due("27 least", x.book(2, 1), 1);
        due("27 most", x.book(2, 100), 101);
        for (int i = 2; i < 10; i++) {
            due("27 sum " + i, x.book(2, 100), 100 * i + 1);
        }
        due("27 full", x.book(2, 100), FULL);
        due("27 up to 1000", x.book(2, 99), 1000);
        due("27 full by one", x.book(2, 1), FULL);
        due("27 beyond ahead of full", x.book(2, 101), BEYOND);
        due("27 of", x.of(2, 7), 1000);
        due("27 none", x.book(0, 0), BEYOND);
        due("27 below", x.book(0, -1), BEYOND);
        due("27 highest", x.book(0, MAX), BEYOND);
        due("27 no topic", x.book(4, 1), BEYOND);
        due("27 no topic below", x.book(-1, 1), BEYOND);
        due("27 nothing changed", x.of(0, 7), 0);
    }

    private static void due() {
        LessonSpiral x = fourKinds();
        due("28 none", x.due(0, 5), 0);
        x.put(0, 2);
        x.again(0, 4);
        int[] want = {0, 0, 3, 3, 4, 4};
        for (int w = 0; w < 6; w++) {
            due("28 due " + w, x.due(0, w), want[w]);
            due("28 strand " + w, x.due(2, w), w + 1);
        }
        x.put(0, -1);
        due("28 second alone", x.due(0, 4), 1);
        x.snow(0, true);
        x.snow(4, true);
        due("28 strand in snow", x.due(2, 0), 0);
        due("28 strand beside snow", x.due(2, 5), 4);
        due("28 snow leaves the others", x.due(0, 4), 1);
        due("28 week above", x.due(0, 6), BEYOND);
        due("28 week below", x.due(0, -1), BEYOND);
        due("28 no topic", x.due(4, 0), BEYOND);
        due("28 no topic below", x.due(-1, 0), BEYOND);
    }

    private static void drift() {
        LessonSpiral x = fourKinds();
        x.put(0, 2);
        x.put(1, 3);
        due("29 strand alone", x.drift(0), 1);
        due("29 with the first", x.drift(2), 6);
        due("29 with two", x.drift(3), 9);
        x.book(0, 1);
        due("29 some is taught", x.drift(3), 8);
        x.book(0, 100);
        due("29 no more than is due", x.drift(3), 6);
        due("29 nor sooner", x.drift(1), 2);
        x.book(3, 9);
        due("29 what is not due", x.drift(3), 6);
        x.book(2, 4);
        due("29 strand is taught", x.drift(3), 2);
        due("29 above", x.drift(6), BEYOND);
        due("29 below", x.drift(-1), BEYOND);
    }

    private static void undo() {
        LessonSpiral x = new LessonSpiral();
        due("30 none", x.undo(), NONE);
        x.topic(3, 2);
        x.topic(0, 1);
        x.need(0, 1, true);
        x.comes(0, 4);
        x.standards(0, 9);
        x.partner(0, 1);
        x.room(1, 33);
        x.snow(2, true);
        x.test(3);
        x.sheet(0, 8, 2);
        x.write(0, 0, 21);
        x.write(0, 1, -5);
        x.read(0);
        x.put(0, 5);
        x.again(0, 1);
        x.book(0, 50);
        due("30 book", x.undo(), 12);
        due("30 taught", x.of(0, 7), 0);
        due("30 again", x.undo(), 11);
        due("30 second", x.of(0, 6), -1);
        due("30 put", x.undo(), 10);
        due("30 first", x.of(0, 5), -1);
        due("30 snow of read", x.told(1), 2);
        due("30 read", x.undo(), 9);
        due("30 snow as it was", x.told(1), 1);
        due("30 test", x.undo(), 8);
        due("30 the test", x.told(2), 6);
        due("30 snow", x.undo(), 7);
        due("30 no snow", x.told(1), 0);
        due("30 room", x.undo(), 6);
        due("30 rooms", x.room(1, 10) + x.room(0, 10), 20);
        due("30 rooms again", x.undo() + x.undo(), 7 + 6);
        due("30 partner", x.undo(), 5);
        due("30 no partner", x.partner(0, -1), -1);
        due("30 no partner again", x.undo(), 5);
        due("30 standards", x.undo(), 4);
        due("30 no standards", x.of(0, 4), 0);
        due("30 comes", x.undo(), 3);
        due("30 no return", x.of(0, 3), 0);
        due("30 need", x.undo(), 2);
        due("30 no need", x.of(0, 2), 0);
        due("30 topic", x.undo(), 1);
        due("30 one topic", x.told(0), 1);
        due("30 last", x.undo(), 0);
        due("30 no topic", x.told(0), 0);
        due("30 no more", x.undo(), NONE);
        due("30 sheets stay", x.read(0), 2);
        due("30 findings stay", x.told(3), 2);
        undoOfPlans();
        undoLimits();
    }

    private static void undoOfPlans() {
        LessonSpiral x = plain(1, 1);
        x.put(0, 3);
        x.again(1, 3);
        x.best(false);
        x.least(false);
        x.plans();
        due("30 best is taken", x.best(true), 2);
        x.room(0, 0);
        due("30 least is taken", x.least(true), 1);
        due("30 undo least", x.undo(), 6);
        due("30 before least", x.of(0, 5), 0);
        due("30 undo room", x.undo(), 5);
        due("30 undo best", x.undo(), 4);
        due("30 first as it was", x.of(0, 5), 3);
        due("30 second as it was", x.of(1, 6), 3);
        due("30 none as it was", x.of(1, 5), -1);
    }

    private static void undoLimits() {
        LessonSpiral x = plain(1);
        for (int i = 0; i < 30; i++) {
            x.book(0, 1);
        }
        for (int i = 24; i >= 0; i--) {
            due("30 of 25, left " + i, x.undo(), i);
            due("30 of 25, taught", x.of(0, 7), 5 + i);
        }
        due("30 the 26th is not kept", x.undo(), NONE);
        due("30 stays", x.of(0, 7), 5);
        LessonSpiral y = plain(1, 2);
        y.need(0, 1, false);
        y.snow(0, false);
        y.room(0, 10);
        y.put(0, -1);
        y.best(true);
        y.best(true);
        due("30 such as changed nothing", y.undo(), 7);
        y.put(0, 9);
        y.topic(9, 9);
        y.sheet(0, 8, 1);
        y.write(0, 0, 1);
        y.copy(0, 0, 0, 0, 1);
        y.as(0, 0);
        due("30 findings and sheets are not kept", y.undo(), 6);
        y.topic(2, 1);
        due("30 an act behind undo", y.undo(), 6);
        topicAnew();
    }

    /** A topic that takes the number of one that was undone has nothing of it. */
    private static void topicAnew() {
        LessonSpiral x = plain(1);
        x.topic(3, 9);
        x.need(1, 0, true);
        x.comes(1, 3);
        x.standards(1, 7);
        x.partner(1, 0);
        x.put(1, 2);
        x.again(1, 3);
        x.book(1, 5);
        for (int i = 0; i < 8; i++) {
            x.undo();
        }
        due("30 anew", x.topic(3, 2), 1);
        int[] want = {3, 2, 0, 0, 0, -1, -1, 0};
        for (int what = 0; what < 8; what++) {
            due("30 anew, of " + what, x.of(1, what), want[what]);
        }
        due("30 anew, partner", x.partner(1, 0), -1);
    }

    private static void told() {
        LessonSpiral x = new LessonSpiral();
        due("31 beyond", x.told(4), BEYOND);
        due("31 below", x.told(-1), BEYOND);
        due("31 two", x.told(3), 2);
        due("31 asking is none", x.told(3), 2);
        x.topic(9, 9);
        x.as(0, 0);
        x.need(0, 0, true);
        x.of(0, 0);
        x.read(0);
        x.undo();
        x.only(0);
        x.load(9);
        due("31 every act", x.told(3), 10);
        x.topic(0, 1);
        x.partner(0, -1);
        due("31 one more", x.told(3), 11);
        x.put(0, -1);
        due("31 none is no finding", x.told(3), 11);
        due("31 topics", x.told(0), 1);
        x.snow(5, true);
        x.snow(4, true);
        due("31 snow", x.told(1), 2);
        x.test(4);
        due("31 test", x.told(2), 4);
        x.undo();
        due("31 findings are not undone", x.told(3), 11);
    }

    public static void main(String[] args) {
        newObject();
        topic();
        as();
        need();
        comes();
        standards();
        partner();
        of();
        room();
        snow();
        test();
        sheet();
        write();
        copy();
        read();
        put();
        again();
        fault();
        load();
        evenness();
        best();
        plans();
        least();
        late();
        met();
        only();
        book();
        due();
        drift();
        undo();
        told();
        end();
    }
}
