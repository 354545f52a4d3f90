/** Promises 32 to 38: IMAGE and BACK, and the RACE as it was run. */
public final class MemoryTest {
    private static final int NONE = Checks.NONE;

    public static void main(String[] args) {
        image();
        imageOfDraws();
        imageOfPlaces();
        imageOfSixtyTicks();
        imageOfBrooks();
        was();
        passed();
        leader();
        led();
        struck();
        refusedBeforeStart();
        Checks.finish("MemoryTest");
    }

    /** What a RACE of three RUNNERS at most tells, in one text; it takes some 100 calls. */
    private static String told(StickRace r) {
        StringBuilder all = new StringBuilder(Checks.state(r));
        for (int t = 0; t <= 6; t++) {
            all.append(" leader ").append(r.leader(t));
            for (int i = 0; i < 3; i++) {
                all.append(' ').append(r.was(i, t, 0)).append('/').append(r.was(i, t, 1));
            }
        }
        for (int x = 0; x <= 3; x++) {
            all.append(" struck ").append(r.struck(x)).append(" lies ").append(r.lies(x, 0)).append(r.lies(x, 1));
        }
        for (int i = 0; i < 3; i++) {
            all.append(' ').append(r.passed(i, 1)).append('/').append(r.passed(i, 3)).append('/').append(r.led(i));
        }
        return all.toString();
    }

    private static void alike(String what, StickRace r, String before) {
        Checks.due(what + " (1: as it was)", told(r).equals(before), true);
    }

    /** A RACE that has gone two TICKS, with an IMAGE of it then. */
    private static StickRace imageOfTwo() {
        StickRace r = Checks.onBrook("44o4;44@4;3333", "l1");
        Checks.due("no RACE", r.image(), NONE);
        Checks.due("no IMAGE", r.back(), NONE);
        for (int y = 0; y < 3; y++) {
            r.runner(0, y);
        }
        Checks.due("none was started", r.image(), NONE);
        Checks.due("no IMAGE by that", r.back(), NONE);
        r.start(3L);
        Checks.due("at the START", r.image(), 0);
        r.tick(3);
        Checks.due("back to the START", r.back(), 0);
        Checks.due("TICKS", r.count(5), 0);
        r.tick(2);
        Checks.due("another IMAGE instead", r.image(), 2);
        return r;
    }

    /** Promises 32 and 33. */
    private static void image() {
        StickRace once = Checks.onBrook("44o4;44@4;3333", "l1");
        for (int y = 0; y < 3; y++) {
            once.runner(0, y);
        }
        once.start(3L);
        once.tick(2);
        String two = told(once);
        alike("image() itself", imageOfTwo(), two);
        once.tick(3);
        String five = told(once);
        StickRace again = imageOfTwo();
        again.tick(3);
        Checks.due("back to two", again.back(), 2);
        alike("back", again, two);
        again.tick(3);
        alike("as it went the first time", again, five);
        StickRace r = imageOfTwo();
        r.weather(0, 2);
        r.weather(1, 1);
        r.weather(2, 9);
        Checks.due("back again", r.back(), 2);
        Checks.due("WIND is not kept", r.count(6), 2);
        Checks.due("HIGH is not kept", r.count(7), 1);
        Checks.due("HOLD is not kept", r.count(8), 9);
        r.tick(60);
        Checks.due("back from the end", r.back(), 2);
        r.weather(0, 0);
        r.weather(1, 0);
        r.weather(2, 5);
        alike("back from the end", r, two);
        Checks.due("as told: anew", r.start(3L), true);
        r.tick(5);
        alike("anew with that seed", r, five);
    }

    private static void imageOfDraws() {
        StickRace r = Checks.onBrook("@@@@@@@@;@@@@@@@@", "l1");
        r.runner(0, 0);
        r.runner(0, 1);
        r.weather(2, 3);
        r.start(77L);
        r.tick(9);
        r.image();
        r.tick(30);
        String first = told(r);
        for (int again = 0; again < 2; again++) {
            r.start(78L);
            r.tick(5);
            r.back();
            r.tick(30);
            alike("the draws go on as they did", r, first);
        }
    }

    private static void imageOfPlaces() {
        StickRace r = Checks.onBrook("1111;4444", "l1");
        r.runner(0, 0);
        r.runner(0, 1);
        r.start(0L);
        r.tick(5);
        r.image();
        r.start(0L);
        r.back();
        Checks.due("one is OUT, eleven TICKS are left", r.tick(60), 11);
        Checks.due("the other one comes in second", r.look(0, 4), 1);
    }

    private static void imageOfSixtyTicks() {
        StickRace r = Checks.onBrook("1111;444o;1111;444o", "l1");
        r.weather(2, 10);
        Checks.brook(r, "@444;4@44");
        r.on(1);
        r.runner(0, 0);
        r.runner(0, 1);
        r.start(0L);
        r.tick(60);
        r.image();
        r.on(1);
        r.runner(0, 1);
        r.start(0L);
        r.tick(60);
        Checks.due("another LEADER", r.leader(60), 0);
        r.back();
        for (int t = 1; t <= 60; t++) {
            Checks.due("LEADER of the IMAGE behind " + t, r.leader(t), 1);
        }
    }

    private static void imageOfBrooks() {
        StickRace r = Checks.onBrook("4444;4444;4444", "l1", "l2");
        Checks.brook(r, "11111;11111");
        r.runner(1, 0);
        r.runner(0, 2);
        r.start(0L);
        r.tick(1);
        r.image();
        String kept = told(r);
        r.on(1);
        Checks.due("no RACE on the other BROOK", r.image(), NONE);
        r.runner(0, 1);
        r.start(1L);
        r.tick(2);
        Checks.due("back to the first BROOK", r.back(), 1);
        alike("back to the first BROOK", r, kept);
        Checks.due("its RUNNERS", r.count(2), 2);
        Checks.due("a RACE was started", r.runner(0, 1), NONE);
        r.tick(60);
        Checks.due("OUT at x 4", r.look(0, 0), 4);
        Checks.due("anew from the starts of the first BROOK", r.start(0L), true);
        Checks.due("RUNNER 0 is at LANE 0", r.look(0, 1), 0);
        Checks.due("RUNNER 1 is at LANE 2", r.look(1, 1), 2);
        r.on(1);
        Checks.due("back when no RACE is", r.back(), 1);
        alike("back when no RACE is", r, kept);
    }

    /**
     * RUNNER 0 (LANE 0) strikes the STONE at x 2 in TICK 2 and the side is free: LANE 1 then. RUNNER 1 (LANE 1)
     * has PACE 2 at x 0 alone. RUNNER 2 (LANE 3) is slow.
     */
    private static StickRace three() {
        StickRace r = Checks.onBrook("44o44;24444;o4444;11111", "l1");
        r.runner(0, 0);
        r.runner(0, 1);
        r.runner(0, 3);
        r.start(0L);
        return r;
    }

    /** Promise 34. */
    private static void was() {
        StickRace r = three();
        Checks.due("at the START: x", r.was(1, 0, 0), 0);
        Checks.due("at the START: y", r.was(1, 0, 1), 1);
        Checks.due("TICK 1 is not yet", r.was(0, 1, 0), NONE);
        r.tick(6);
        // TICK 1: 1, 0 (REST 2), 0. 2: RUNNER 0 strikes, to LANE 1; RUNNER 1 has 2 and 2 and a WAVE: 5, but RUNNER 0
        // lies there: it strikes, and goes aside to LANE 2? No: x 0 has a STONE there, so it stays.
        int[][] x = {{0, 1, 1, 2, 3, 4, 5}, {0, 0, 0, 0, 1, 2, 3}, {0, 0, 0, 0, 1, 1, 1}};
        int[] y0 = {0, 0, 1, 1, 1, 1, 1};
        for (int t = 0; t <= 6; t++) {
            for (int i = 0; i < 3; i++) {
                Checks.due("was(" + i + ", " + t + ", 0)", r.was(i, t, 0), x[i][t]);
            }
            Checks.due("was(0, " + t + ", 1)", r.was(0, t, 1), y0[t]);
            Checks.due("was(1, " + t + ", 1)", r.was(1, t, 1), 1);
            Checks.due("was(2, " + t + ", 1)", r.was(2, t, 1), 3);
        }
        Checks.due("TICK 7", r.was(0, 7, 0), NONE);
        Checks.due("TICK -1", r.was(0, -1, 0), NONE);
        Checks.due("RUNNER 3", r.was(3, 1, 0), NONE);
        Checks.due("RUNNER -1", r.was(-1, 1, 0), NONE);
        Checks.due("what 2", r.was(0, 1, 2), NONE);
        Checks.due("what -1", r.was(0, 1, -1), NONE);
        r.start(0L);
        Checks.due("since its START alone", r.was(0, 1, 0), NONE);
        StickRace stuck = Checks.onBrook("444o;444o", "l1");
        stuck.runner(0, 1);
        stuck.start(0L);
        stuck.tick(60);
        Checks.due("TICK 60", stuck.was(0, 60, 0), 2);
        Checks.due("TICK 61", stuck.was(0, 61, 0), NONE);
    }

    /** Promise 35. */
    private static void passed() {
        StickRace r = three();
        Checks.due("not yet", r.passed(0, 1), NONE);
        r.tick(6);
        int[] of0 = {1, 3, 4, 5, 6};
        int[] of1 = {4, 5, 6, NONE, NONE};
        for (int x = 1; x <= 5; x++) {
            Checks.due("RUNNER 0, x " + x, r.passed(0, x), of0[x - 1]);
            Checks.due("RUNNER 1, x " + x, r.passed(1, x), of1[x - 1]);
        }
        Checks.due("x 16", r.passed(0, 16), NONE);
        Checks.due("x 17", r.passed(0, 17), NONE);
        Checks.due("x 0", r.passed(0, 0), NONE);
        Checks.due("x -1", r.passed(0, -1), NONE);
        Checks.due("RUNNER 3", r.passed(3, 1), NONE);
        Checks.due("RUNNER -1", r.passed(-1, 1), NONE);
        r.on(0);
        r.runner(0, 3);
        r.start(0L);
        r.tick(6);
        Checks.due("a RUNNER that is gone", r.passed(1, 1), NONE);
        Checks.due("LEADERS are not of those that are gone", r.led(0), 6);
        StickRace fast = Checks.onBrook("9999999999999999;9999999999999999", "l1");
        fast.runner(0, 0);
        fast.start(0L);
        fast.tick(60);
        // 2, 4, 6, 9, 11, 13, 15, then OUT.
        int[][] due = {{1, 1}, {2, 1}, {3, 2}, {6, 3}, {7, 4}, {9, 4}, {10, 5}, {15, 7}, {16, 8}};
        for (int[] d : due) {
            Checks.due("two or three in a TICK: x " + d[0], fast.passed(0, d[0]), d[1]);
        }
    }

    /** Promise 36. */
    private static void leader() {
        // x behind TICKS 1 and on: RUNNER 0: 0 1 1 2; RUNNER 1: 1 1 1 1 1 .. ; RUNNER 2 (PACE 3): 0 1 2 3 3 4 (OUT).
        StickRace r = Checks.onBrook("2222;4111;3333", "l1");
        for (int y = 0; y < 3; y++) {
            r.runner(0, y);
        }
        r.start(0L);
        Checks.due("at the START the lowest", r.leader(0), 0);
        Checks.due("TICK 1 is not yet", r.leader(1), NONE);
        r.tick(60);
        Checks.due("TICKS in all", r.count(5), 13);
        int[] due = {0, 1, 0, 2, 2, 2, 2, 2, 2, 2, 2, 2, 2, 2};
        for (int t = 0; t <= 13; t++) {
            Checks.due("LEADER behind " + t, r.leader(t), due[t]);
        }
        Checks.due("TICK 14", r.leader(14), NONE);
        Checks.due("TICK -1", r.leader(-1), NONE);
        // All OUT: x is alike, but the LEADER is the one of PLACE 0.
        StickRace out = Checks.onBrook("2222;4444", "l1");
        out.runner(0, 0);
        out.runner(0, 1);
        out.start(0L);
        out.tick(60);
        Checks.due("the one of PLACE 0", out.leader(8), 1);
        Checks.due("x is alike", out.was(0, 8, 0), out.was(1, 8, 0));
        out.image();
        out.on(0);
        out.runner(0, 1);
        out.start(0L);
        out.tick(2);
        Checks.due("none that is gone is LEADER", out.leader(2), 0);
        out.tick(60);
        out.back();
        for (int t = 1; t <= 8; t++) {
            Checks.due("LEADERS of the IMAGE, TICK " + t, out.leader(t), 1);
        }
        StickRace stuck = Checks.onBrook("444o;444o", "l1");
        stuck.runner(0, 1);
        stuck.start(0L);
        stuck.tick(60);
        Checks.due("TICK 60", stuck.leader(60), 0);
        Checks.due("TICK 61", stuck.leader(61), NONE);
        Checks.due("LED behind sixty TICKS", stuck.led(0), 60);
    }

    /** Promise 37. */
    private static void led() {
        StickRace r = Checks.onBrook("2222;4111;3333", "l1");
        for (int y = 0; y < 3; y++) {
            r.runner(0, y);
        }
        r.start(0L);
        int[][] none = {{0, 0}, {1, 0}, {2, 0}, {NONE, 0}};
        for (int[] d : none) {
            Checks.due("at the START led " + d[0], r.led(d[0]), d[1]);
        }
        r.tick(1);
        Checks.due("the LEADER at the START does not count", r.led(0), 0);
        Checks.due("the LEADER behind TICK 1 does", r.led(1), 1);
        Checks.due("from that of the START to that of TICK 1 is no CHANGE", r.led(NONE), 0);
        r.tick(1);
        Checks.due("a CHANGE behind TICK 2", r.led(NONE), 1);
        r.tick(1);
        Checks.due("another one behind TICK 3", r.led(NONE), 2);
        r.tick(60);
        int[][] due = {{0, 1}, {1, 1}, {2, 11}, {NONE, 2}, {3, NONE}, {-2, NONE}};
        for (int[] d : due) {
            Checks.due("led " + d[0], r.led(d[0]), d[1]);
        }
    }

    /** Promise 38. */
    private static void struck() {
        StickRace r = three();
        Checks.due("none struck: NARROW", r.struck(NONE), NONE);
        Checks.due("none struck", r.struck(0), 0);
        r.tick(2);
        // Behind TICK 2: RUNNER 0 at x 1, RUNNER 1 at x 0.
        Checks.due("at x 0", r.struck(0), 1);
        Checks.due("at x 1", r.struck(1), 1);
        Checks.due("at x 2, where the STONE is", r.struck(2), 0);
        Checks.due("NARROW: of several the lowest", r.struck(NONE), 0);
        Checks.due("x 15", r.struck(15), 0);
        Checks.due("x 16", r.struck(16), NONE);
        Checks.due("x -2", r.struck(-2), NONE);
        r.start(0L);
        Checks.due("since its START alone", r.struck(0), 0);
        Checks.due("NARROW since its START", r.struck(NONE), NONE);
        StickRace many = Checks.onBrook("444o;444o;444o", "l3");
        many.runner(0, 0);
        many.start(0L);
        many.tick(60);
        Checks.due("58 at x 2", many.struck(2), 58);
        Checks.due("NARROW", many.struck(NONE), 2);
        StickRace last = Checks.onBrook("444444444444444o;444444444444444o", "l2");
        last.runner(0, 0);
        last.start(0L);
        last.tick(60);
        Checks.due("at x 14", last.struck(14), 46);
        Checks.due("NARROW is 14", last.struck(NONE), 14);
    }

    private static void refusedBeforeStart() {
        StickRace r = Checks.onBrook("4444;4444", "l1");
        r.runner(0, 0);
        Checks.due("was", r.was(0, 0, 0), NONE);
        Checks.due("passed", r.passed(0, 1), NONE);
        Checks.due("leader", r.leader(0), NONE);
        Checks.due("led", r.led(0), NONE);
        Checks.due("CHANGES", r.led(NONE), NONE);
        Checks.due("struck", r.struck(0), NONE);
        Checks.due("NARROW", r.struck(NONE), NONE);
        r.start(0L);
        r.tick(60);
        r.on(0);
        r.runner(0, 0);
        Checks.due("was, of a RACE that is gone", r.was(0, 0, 0), NONE);
        Checks.due("passed, of a RACE that is gone", r.passed(0, 1), NONE);
        Checks.due("leader, of a RACE that is gone", r.leader(1), NONE);
        Checks.due("led, of a RACE that is gone", r.led(0), NONE);
        Checks.due("struck, of a RACE that is gone", r.struck(0), NONE);
    }
}
