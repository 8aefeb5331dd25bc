/**
 * The laws of a plan at their bounds, each by all weeks that can meet there, and the plans that
 * best(), plans() and least() seek, where there is none, one, or several that are as good.
 */
public final class LawsTest extends Check {
    private static final int[] OWN_KINDS = {0, 1, 3};

    /** So many topics of 1 hour, all in week 0. */
    private static LessonSpiral inFirstWeek(int topics) {
        LessonSpiral x = new LessonSpiral();
        for (int t = 0; t < topics; t++) {
            x.topic(0, 1);
            x.put(t, 0);
        }
        return x;
    }

    private static void planOf(String what, LessonSpiral x, int... weeks) {
        for (int t = 0; 2 * t < weeks.length; t++) {
            due(what + ": first of " + t, x.of(t, 5), weeks[2 * t]);
            due(what + ": second of " + t, x.of(t, 6), weeks[2 * t + 1]);
        }
    }

    // ---- Promise 18: the laws

    /** "1 it has a FIRST": week 0 is one, none is none. */
    private static void law1() {
        for (int t = 0; t < 8; t++) {
            LessonSpiral x = inFirstWeek(8);
            due("18 all have a first", x.fault(), 0);
            x.put(t, -1);
            due("18 law 1, topic " + t, x.fault(), 100 + t);
            x.again(t, 0);
            due("18 law 1, a second is no first " + t, x.fault(), 100 + t);
        }
    }

    /** "2 its FIRST has no SNOW". */
    private static void law2() {
        for (int snow = 0; snow < 6; snow++) {
            for (int first = 0; first < 6; first++) {
                LessonSpiral x = inFirstWeek(8);
                for (int t = 0; t < 8; t++) {
                    x.put(t, snow == 0 ? 1 : 0);
                }
                x.put(7, first);
                x.snow(snow, true);
                due("18 law 2, first " + first + ", snow " + snow, x.fault(), first == snow ? 207 : 0);
            }
        }
    }

    /** "3 all that it NEEDS (but STRANDS) has a FIRST ahead of its own". */
    private static void law3() {
        for (int needed = 0; needed < 6; needed++) {
            for (int own = 0; own < 6; own++) {
                for (int t = 0; t < 8; t += 7) {
                    LessonSpiral x = inFirstWeek(8);
                    x.need(t, 7 - t, true);
                    x.put(7 - t, needed);
                    x.put(t, own);
                    due("18 law 3, needed " + needed + " own " + own, x.fault(), needed < own ? 0 : 300 + t);
                }
            }
        }
        LessonSpiral y = inFirstWeek(8);
        for (int other = 0; other < 7; other++) {
            y.need(7, other, true);
            y.put(other, 3);
        }
        y.put(7, 4);
        due("18 law 3, all seven are ahead", y.fault(), 0);
        for (int other = 0; other < 7; other++) {
            y.put(other, 4);
            due("18 law 3, one of seven is not ahead " + other, y.fault(), 307);
            y.put(other, 3);
        }
    }

    /** "(but STRANDS)"; "counts as met ahead of all WEEKS". */
    private static void law3OfStrands() {
        LessonSpiral x = new LessonSpiral();
        x.topic(2, 9);
        x.topic(0, 1);
        x.topic(0, 1);
        x.need(1, 0, true);
        x.need(0, 2, true);
        x.put(1, 0);
        x.put(2, 5);
        due("18 law 3, a strand is met ahead of week 0", x.fault(), 0);
        due("22 a strand is met ahead of week 0", x.plans(), 36);
        x.need(1, 2, true);
        due("18 law 3, the other is not", x.fault(), 301);
        due("22 the other is not", x.plans(), 15);
    }

    /** "4 if it has a RETURN it has a SECOND, without SNOW, behind its FIRST by 1 to RETURN WEEKS ..". */
    private static void law4() {
        for (int comes = 0; comes <= 9; comes++) {
            for (int first = 0; first < 6; first++) {
                for (int second = -1; second < 6; second++) {
                    LessonSpiral x = inFirstWeek(1);
                    x.comes(0, comes);
                    x.put(0, first);
                    x.again(0, second);
                    int by = second - first;
                    boolean kept = comes == 0 ? second == -1 : second != -1 && by >= 1 && by <= comes;
                    String what = "18 law 4, return " + comes + " first " + first + " second " + second;
                    due(what, x.fault(), kept ? 0 : 400);
                    if (second != -1 && second != first) {
                        x.snow(second, true);
                        due(what + " in snow", x.fault(), 400);
                    }
                }
            }
        }
    }

    /** "5 a TESTED one (JOINT, too): its FIRST and its SECOND, if any, are ahead of THE TEST". */
    private static void law5() {
        for (int kind : OWN_KINDS) {
            for (int first = 0; first < 6; first++) {
                // The first week itself stands for no second one.
                for (int second = first; second < 6; second++) {
                    for (int test = 0; test <= 6; test++) {
                        boolean isAny = second > first;
                        LessonSpiral x = new LessonSpiral();
                        x.topic(kind, 1);
                        x.put(0, first);
                        x.comes(0, isAny ? 9 : 0);
                        x.again(0, isAny ? second : -1);
                        x.test(test);
                        boolean ahead = first < test && (!isAny || second < test);
                        due("18 law 5, kind " + kind + " weeks " + first + " " + second + " test " + test,
                            x.fault(), kind == 0 || ahead ? 0 : 500);
                    }
                }
            }
        }
    }

    /** "a JOINT one with a PARTNER that is no STRAND: its FIRST is its PARTNER's". */
    private static void law5OfPartners() {
        for (int kind = 0; kind < 4; kind++) {
            for (int own = 0; own < 6; own++) {
                for (int other = 0; other < 6; other++) {
                    LessonSpiral x = new LessonSpiral();
                    x.topic(kind, 1);
                    x.topic(3, 1);
                    x.put(0, other);
                    x.put(1, own);
                    due("18 law 5, no partner", x.fault(), 0);
                    x.partner(1, 0);
                    due("18 law 5, partner of kind " + kind + " in " + other + ", own " + own, x.fault(),
                        kind == 2 || own == other ? 0 : 501);
                    x.partner(1, -1);
                    due("18 law 5, no partner any more", x.fault(), 0);
                }
            }
        }
        LessonSpiral y = new LessonSpiral();
        y.topic(3, 1);
        y.topic(3, 1);
        y.partner(0, 1);
        y.partner(1, 0);
        y.put(0, 2);
        y.put(1, 3);
        due("18 law 5, each the other's", y.fault(), 500);
        y.put(1, 2);
        due("18 law 5, both in one week", y.fault(), 0);
    }

    /** "6 a WEEK with SNOW has LOAD 0": a STRAND takes no hour there; and a room of 0 is enough for it. */
    private static void law6() {
        LessonSpiral x = new LessonSpiral();
        for (int t = 0; t < 8; t++) {
            x.topic(2, 1);
        }
        for (int w = 0; w < 6; w++) {
            x.room(w, 0);
            due("18 law 7, strands without room in " + w, x.fault(), 700 + w);
            x.snow(w, true);
            due("18 law 6, strands in snow " + w, x.fault(), 0);
        }
    }

    /** "7 LOAD is at most the ROOM": as much, one more, and what is empty in no room. */
    private static void law7() {
        for (int w = 0; w < 6; w++) {
            LessonSpiral x = new LessonSpiral();
            for (int t = 0; t < 8; t++) {
                x.topic(0, 9);
                x.put(t, t < 4 ? w : 5 - w);
            }
            x.room(5 - w, 40);
            x.room(w, 36);
            due("18 law 7, as much as the room in " + w, x.fault(), 0);
            x.room(w, 35);
            due("18 law 7, one more than the room in " + w, x.fault(), 700 + w);
            x.room(w, 40);
            x.put(4, w);
            due("18 law 7, more than the most room in " + w, x.fault(), 700 + w);
        }
        LessonSpiral y = inFirstWeek(1);
        for (int w = 1; w < 6; w++) {
            y.room(w, 0);
        }
        y.room(0, 1);
        due("18 law 7, no room where nothing is", y.fault(), 0);
        y.comes(0, 1);
        y.again(0, 1);
        due("18 law 7, a second takes an hour", y.fault(), 701);
        y.room(1, 1);
        due("18 law 7, and no more", y.fault(), 0);
    }

    /** "LAWS, in this order; for each by topics (6 and 7: by WEEKS)": all are broken, and mended one by one. */
    private static void order() {
        LessonSpiral x = new LessonSpiral();
        int[] kinds = {2, 3, 1, 0, 0, 0, 0, 0};
        for (int kind : kinds) {
            x.topic(kind, 1);
        }
        int[] firsts = {4, 4, 3, 3, 0, 1, -1};
        for (int t = 1; t < 8; t++) {
            x.put(t, firsts[t - 1]);
        }
        x.partner(1, 3);
        x.test(4);
        x.comes(2, 1);
        x.need(3, 4, true);
        x.need(4, 5, true);
        x.snow(1, true);
        x.room(2, 0);
        x.room(5, 0);
        due("18 law 1 ahead of all", x.fault(), 107);
        x.put(7, 1);
        due("18 law 2, of two the first", x.fault(), 206);
        x.put(6, 5);
        due("18 law 2, the other", x.fault(), 207);
        x.put(7, 0);
        due("18 law 3 ahead of 4", x.fault(), 303);
        x.put(4, 2);
        due("18 law 4 ahead of 5", x.fault(), 402);
        x.again(2, 5);
        due("18 law 5 ahead of 7, of two the first", x.fault(), 501);
        x.put(1, 3);
        due("18 law 5, the other", x.fault(), 502);
        x.test(6);
        due("18 law 7, of two the first", x.fault(), 702);
        x.room(2, 2);
        due("18 law 7, the other", x.fault(), 705);
        x.room(5, 3);
        due("18 whole", x.fault(), 0);
    }

    /** Laws of a later topic are told ahead of a later law of an earlier one. */
    private static void lawsAheadOfTopics() {
        LessonSpiral x = inFirstWeek(8);
        for (int t = 1; t < 8; t++) {
            x.put(t, 1);
        }
        x.room(1, 0);
        x.again(0, 3);
        due("18 law 4 of topic 0", x.fault(), 400);
        x.need(7, 6, true);
        due("18 law 3 of topic 7 ahead of it", x.fault(), 307);
        x.snow(0, true);
        due("18 law 2 of topic 0 ahead of that", x.fault(), 200);
        x.put(7, -1);
        due("18 law 1 of topic 7 ahead of that", x.fault(), 107);
    }

    // ---- Promises 21 to 23: the plans in question

    /** "LONG: there are more than 4 topics that are no STRANDS." */
    private static void fourAndFive() {
        LessonSpiral x = new LessonSpiral();
        for (int t = 0; t < 4; t++) {
            x.topic(2, 9);
        }
        due("21 strands alone", x.best(true), 6 * 16);
        due("22 strands alone", x.plans(), 1);
        due("23 strands alone", x.least(true), 0);
        for (int t = 4; t < 8; t++) {
            x.topic(t == 6 ? 3 : t % 2, 1);
        }
        due("21 four beside four strands", x.best(true), 4 * 25 + 2 * 16);
        due("22 four beside four strands", x.plans(), 1296);
        due("23 four beside four strands", x.least(true), 0);
        planOf("21 four beside four strands", x, -1, -1, -1, -1, -1, -1, -1, -1, 0, -1, 1, -1, 2, -1, 3, -1);
        for (int kind : OWN_KINDS) {
            LessonSpiral y = new LessonSpiral();
            for (int t = 0; t < 5; t++) {
                due("21 up to four of kind " + kind, y.best(false), t);
                y.topic(kind, 1);
            }
            due("21 five of kind " + kind, y.best(false), LONG);
            due("22 five of kind " + kind, y.plans(), LONG);
            due("23 five of kind " + kind, y.least(false), LONG);
        }
        LessonSpiral z = new LessonSpiral();
        for (int t = 0; t < 8; t++) {
            z.topic(2, 1);
        }
        due("21 eight strands", z.best(false), 6 * 64);
    }

    /** How many pairs of weeks one topic has, counted plainly. */
    private static int pairs(boolean tested, int comes, int snow, int test) {
        int count = 0;
        for (int first = 0; first < 6; first++) {
            boolean open = (snow >> first) % 2 == 0 && (!tested || first < test);
            if (comes == 0) {
                count += open ? 1 : 0;
            }
            for (int second = first + 1; second < 6 && second <= first + comes; second++) {
                count += open && (snow >> second) % 2 == 0 && (!tested || second < test) ? 1 : 0;
            }
        }
        return count;
    }

    /** "How many plans are WHOLE"; "NONE: no plan is WHOLE": one topic, by all weeks of snow and of the test. */
    private static void plansOfOne() {
        for (int kind : OWN_KINDS) {
            for (int comes = 0; comes <= 9; comes++) {
                for (int snow = 0; snow < 64; snow++) {
                    LessonSpiral x = new LessonSpiral();
                    x.topic(kind, 2);
                    x.comes(0, comes);
                    for (int w = 0; w < 6; w++) {
                        x.snow(w, (snow >> w) % 2 == 1);
                    }
                    for (int test = 0; test <= 6; test++) {
                        x.test(test);
                        int want = pairs(kind != 0, comes, snow, test);
                        String what = "kind " + kind + " return " + comes + " snow " + snow + " test " + test;
                        int even = comes == 0 ? 4 : 5;
                        due("22 " + what, x.plans(), want);
                        due("21 " + what, x.best(false), want == 0 ? NONE : even);
                        due("23 " + what, x.least(false), want == 0 ? NONE : comes == 0 ? 1 : 2);
                    }
                }
            }
        }
    }

    /** Law 7 in the plans: room for as much, and for one less. */
    private static void plansInRooms() {
        LessonSpiral x = plain(9, 9);
        x.topic(2, 1);
        for (int w = 0; w < 6; w++) {
            x.room(w, w == 3 ? 19 : 1);
        }
        due("22 room for both and the strand", x.plans(), 1);
        due("21 room for both and the strand", x.best(true), 5 + 19 * 19);
        planOf("21 both", x, 3, -1, 3, -1);
        x.room(3, 18);
        due("22 one hour less", x.plans(), 0);
        due("21 one hour less", x.best(true), NONE);
        due("23 one hour less", x.least(true), NONE);
        x.room(3, 19);
        x.room(0, 0);
        due("22 no room for the strand", x.plans(), 0);
        due("21 no room for the strand", x.best(false), NONE);
        x.snow(0, true);
        due("22 but it takes none in snow", x.plans(), 1);
        x.comes(0, 2);
        due("22 no room for the second", x.plans(), 0);
        x.room(5, 2);
        due("22 room for the second", x.plans(), 1);
        due("23 room for the second", x.least(true), 1);
        planOf("23 with the second", x, 3, 5, 3, -1);
    }

    /** Needs and partners in the plans, whichever topic has the lower number. */
    private static void plansInOrder() {
        for (int t = 0; t < 2; t++) {
            LessonSpiral x = new LessonSpiral();
            x.topic(3, 1);
            x.topic(3, 1);
            due("22 free", x.plans(), 36);
            x.need(t, 1 - t, true);
            due("22 one ahead of the other", x.plans(), 15);
            x.need(t, 1 - t, false);
            x.partner(t, 1 - t);
            due("22 one beside the other", x.plans(), 6);
            x.need(1 - t, t, true);
            due("22 beside and ahead", x.plans(), 0);
            due("21 beside and ahead", x.best(true), NONE);
        }
        LessonSpiral y = plain(1, 1, 1, 1);
        y.need(0, 1, true);
        y.need(1, 2, true);
        y.need(2, 3, true);
        due("22 four in a row", y.plans(), 15);
        y.snow(0, true);
        y.snow(5, true);
        due("22 four in a row in four weeks", y.plans(), 1);
        due("21 four in a row in four weeks", y.best(true), 4);
        planOf("21 four in a row", y, 4, -1, 3, -1, 2, -1, 1, -1);
        y.snow(2, true);
        due("22 four in a row in three weeks", y.plans(), 0);
    }

    /** "THE BEST is the WHOLE one of least EVENNESS; of several the first, told topic by topic, FIRST, then SECOND." */
    private static void firstOfSeveral() {
        LessonSpiral x = plain(1, 1);
        x.comes(0, 9);
        x.comes(1, 9);
        due("21 of several", x.best(true), 4);
        planOf("21 of several", x, 0, 1, 2, 3);
        LessonSpiral y = plain(2, 1, 2, 1);
        y.snow(2, true);
        y.snow(3, true);
        due("21 of several in four weeks", y.best(true), 10);
        planOf("21 of several in four weeks", y, 0, -1, 1, -1, 4, -1, 5, -1);
        LessonSpiral z = plain(3, 1, 1, 1);
        for (int w = 2; w < 6; w++) {
            z.snow(w, true);
        }
        due("21 the others together", z.best(true), 18);
        planOf("21 the others together", z, 0, -1, 1, -1, 1, -1, 1, -1);
        z.room(0, 2);
        due("21 no room in week 0 for three", z.best(true), 20);
        planOf("21 no room in week 0 for three", z, 1, -1, 0, -1, 0, -1, 1, -1);
    }

    /** "best(take): it becomes THE PLAN, too": what it had beside is gone; without take it stays. */
    private static void taken() {
        LessonSpiral x = plain(1, 1);
        x.put(0, 3);
        x.again(0, 3);
        x.again(1, 5);
        due("21 not taken", x.best(false), 2);
        planOf("21 not taken", x, 3, 3, -1, 5);
        due("23 not taken", x.least(false), 3);
        planOf("23 not taken", x, 3, 3, -1, 5);
        due("23 taken", x.least(true), 3);
        planOf("23 taken", x, 3, -1, 0, -1);
        due("21 taken", x.best(true), 2);
        planOf("21 taken", x, 0, -1, 1, -1);
        due("18 and whole", x.fault(), 0);
        due("23 nothing is unlike", x.least(true), 0);
    }

    /** "the fewest of all FIRSTS and SECONDS are unlike those in THE PLAN (none and a WEEK are unlike)". */
    private static void unlike() {
        LessonSpiral x = plain(1, 1, 1, 1);
        due("23 four firsts", x.least(false), 4);
        for (int t = 0; t < 4; t++) {
            x.comes(t, 9);
            due("23 and seconds " + t, x.least(false), 5 + t);
        }
        due("23 all eight", x.least(true), 8);
        due("23 none is left", x.least(false), 0);
        x.put(0, -1);
        due("23 a first that was none", x.least(false), 1);
        x.undo();
        x.again(3, -1);
        due("23 a second that was none", x.least(false), 1);
        x.undo();
        x.comes(3, 0);
        due("23 a second that must be none", x.least(false), 1);
        for (int t = 0; t < 3; t++) {
            x.comes(t, 0);
        }
        due("23 four seconds that must be none", x.least(true), 4);
        due("23 gone", x.of(0, 6) + x.of(1, 6) + x.of(2, 6) + x.of(3, 6), -4);
    }

    /** "of several the one of least EVENNESS, then the first as told". */
    private static void leastOfSeveral() {
        LessonSpiral x = plain(1, 2, 3);
        x.put(0, 0);
        x.put(1, 0);
        x.snow(0, true);
        x.put(2, 1);
        due("23 two move", x.least(true), 2);
        planOf("23 two move, most even, then first", x, 2, -1, 3, -1, 1, -1);
        LessonSpiral y = plain(1, 2, 3);
        for (int t = 0; t < 3; t++) {
            y.put(t, 4);
        }
        y.room(4, 5);
        due("23 one moves, the one that makes it most even", y.least(true), 1);
        planOf("23 the greatest moves", y, 4, -1, 4, -1, 0, -1);
        LessonSpiral z = plain(2, 2);
        z.put(0, 5);
        z.put(1, 5);
        z.room(5, 3);
        due("23 one of two alike moves", z.least(true), 1);
        planOf("23 the first as told", z, 0, -1, 5, -1);
        LessonSpiral v = plain(1);
        v.comes(0, 9);
        v.put(0, 1);
        due("23 a second is sought", v.least(true), 1);
        planOf("23 the first second", v, 1, 2);
        v.snow(1, true);
        due("23 a first is sought", v.least(true), 1);
        planOf("23 ahead of the second", v, 0, 2);
    }

    public static void main(String[] args) {
        law1();
        law2();
        law3();
        law3OfStrands();
        law4();
        law5();
        law5OfPartners();
        law6();
        law7();
        order();
        lawsAheadOfTopics();
        fourAndFive();
        plansOfOne();
        plansInRooms();
        plansInOrder();
        firstOfSeveral();
        taken();
        unlike();
        leastOfSeveral();
        end();
    }
}
