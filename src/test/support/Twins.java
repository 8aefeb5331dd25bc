import java.util.List;

/** Two objects of one and the same run: one does one act more, and must look as the other does. */
abstract class Twins extends Check {
    /** Seven topics, something of everything, and more acts than are kept. */
    static int rich(LessonSpiral x) {
        int[][] topics = {{0, 3}, {1, 2}, {2, 5}, {3, 4}, {0, 9}, {1, 1}, {2, 9}};
        for (int[] t : topics) {
            x.topic(t[0], t[1]);
        }
        x.need(1, 0, true);
        x.need(3, 1, true);
        x.need(4, 2, true);
        x.need(5, 4, true);
        x.comes(0, 2);
        x.comes(3, 3);
        x.standards(0, 5);
        x.standards(2, 1 << 15 | 4);
        x.standards(3, 6);
        x.partner(3, 4);
        x.room(1, 20);
        x.room(4, 0);
        x.snow(2, true);
        x.test(4);
        sheets(x);
        x.put(0, 0);
        x.put(1, 1);
        x.put(4, 3);
        x.again(0, 2);
        x.again(3, 5);
        x.book(0, 2);
        x.book(2, 1);
        return x.book(3, 100);
    }

    /** Sheet 0 of six numbers of 8 bits, 1 of three of 16, 2 of none of 8; 3 is missing. */
    private static void sheets(LessonSpiral x) {
        fill(x, 0, 12, -1, 40, 0, 7, -128);
        x.sheet(1, 16, 3);
        x.write(1, 0, 13);
        x.write(1, 1, 14);
        x.write(1, 2, -2);
        x.sheet(2, 8, 0);
        x.read(1);
    }

    static LessonSpiral behind(Act run) {
        LessonSpiral x = new LessonSpiral();
        run.on(x);
        return x;
    }

    private static LessonSpiral behind(Act run, Act act) {
        LessonSpiral x = behind(run);
        act.on(x);
        return x;
    }

    /** The act leaves all as it was behind the run, and what can be undone, too. */
    static void leavesAll(String what, Act run, Act act) {
        same(what, Sight.of(behind(run, act)), Sight.of(behind(run)));
        same(what + ", undone", Sight.undone(behind(run, act)), Sight.undone(behind(run)));
    }

    static void same(String what, List<String> got, List<String> want) {
        due(what + ": rows seen", got.size(), want.size());
        for (int i = 0; i < Math.min(got.size(), want.size()); i++) {
            boolean alike = got.get(i).equals(want.get(i));
            due(what + " changed " + want.get(i) + " to " + got.get(i) + ":", alike ? 0 : 1, 0);
        }
    }
}
