/** What the tests share: the findings by name, the farthest numbers, and a count of what is not as due. */
abstract class Check {
    static final int BEYOND = -100001;
    static final int MISSING = -100002;
    static final int SIZE = -100003;
    static final int KIND = -100004;
    static final int FULL = -100005;
    static final int NONE = -100006;
    static final int RING = -100007;
    static final int LONG = -100008;

    static final int MIN = Integer.MIN_VALUE;
    static final int MAX = Integer.MAX_VALUE;

    private static int asked = 0;
    private static int wrong = 0;

    /** An act, or a run of acts, on an object. */
    interface Act {
        int on(LessonSpiral x);
    }

    static void due(String what, int got, int want) {
        asked++;
        if (got != want) {
            wrong++;
            System.out.println(what + " answered " + got + ", due is " + want);
        }
    }

    static void end() {
        System.out.println(asked - wrong + " of " + asked + " answers are as due");
        if (wrong != 0) {
            System.exit(1);
        }
    }

    /** Topics 0 TOPIC, 1 TESTED, 2 STRAND, 3 JOINT, of 3, 2, 1 and 4 hours. */
    static LessonSpiral fourKinds() {
        LessonSpiral x = new LessonSpiral();
        x.topic(0, 3);
        x.topic(1, 2);
        x.topic(2, 1);
        x.topic(3, 4);
        return x;
    }

    static LessonSpiral plain(int... hours) {
        LessonSpiral x = new LessonSpiral();
        for (int h : hours) {
            x.topic(0, h);
        }
        return x;
    }

    /** A sheet of 8 bits with these numbers. */
    static void fill(LessonSpiral x, int s, int... numbers) {
        x.sheet(s, 8, numbers.length);
        for (int i = 0; i < numbers.length; i++) {
            x.write(s, i, numbers[i]);
        }
    }

    /** Reads a sheet of rooms without snow, and looks at the rooms. */
    static void holds(String what, LessonSpiral x, int s, int... numbers) {
        due(what + " read", x.read(s), numbers.length);
        for (int i = 0; i < numbers.length; i++) {
            due(what + " number " + i, x.room(i, 10), numbers[i]);
        }
    }
}
