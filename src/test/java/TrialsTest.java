/** Promises 25 to 31: TRIALS, PLAN, FEWEST, SIGHTS, which BROOKS AGREE, STONED, FAIR. */
public final class TrialsTest {
    private static final int NONE = Checks.NONE;

    public static void main(String[] args) {
        trials();
        trialsAtMost();
        plan();
        fewest();
        sight();
        agree();
        stoned();
        fair();
        Checks.finish("TrialsTest");
    }

    /** Promise 25. */
    private static void trials() {
        StickRace r = new StickRace();
        Checks.brook(r, "4444;4444;4444");
        Checks.brook(r, "4444;o444;4444;4444");
        Checks.stick(r, "l1");
        Checks.stick(r, "l2");
        Checks.stick(r, "l5");
        int[][] due = {
            // BROOKS, STICKS, the TRIALS
            {1, 1, 0, 1, 2}, {2, 1, 0, 2, 3}, {3, 1, 0, 2}, {1, 2, 16, 17}, {2, 2, 18}, {3, 2}, {1, 3, 0, 1, 2, 16, 17},
            {3, 3, 0, 2}, {1, 4}, {3, 7, 0, 2},
        };
        for (int[] d : due) {
            String call = "trials of " + d[0] + ", " + d[1];
            Checks.due(call, r.trials(d[0], d[1], NONE), d.length - 2);
            for (int i = 2; i < d.length; i++) {
                Checks.due(call + ", " + (i - 2), r.trials(d[0], d[1], i - 2), d[i]);
            }
            Checks.due(call + ", one more", r.trials(d[0], d[1], d.length - 2), NONE);
            Checks.due(call + ", -2", r.trials(d[0], d[1], -2), NONE);
        }
        r.weather(1, 2);
        Checks.due("at high water", r.trials(3, 1, NONE), 3);
        int[][] none = {{0, 1}, {4, 1}, {-1, 1}, {1, 0}, {1, 8}, {1, -1}, {Integer.MIN_VALUE, 1}};
        for (int[] n : none) {
            Checks.due("no such ones " + n[0] + ", " + n[1], r.trials(n[0], n[1], NONE), NONE);
        }
    }

    private static void trialsAtMost() {
        StickRace r = new StickRace();
        Checks.brook(r, "4444;4444;4444;4444;4444;o444");
        Checks.stick(r, "l1");
        Checks.stick(r, "h6");
        Checks.stick(r, "l4");
        Checks.stick(r, "l3");
        // Of LENGTH 1 there are 5, of LENGTH 4 there are 2, of LENGTH 3 there are 3.
        Checks.due("12 are told", r.trials(1, 7, NONE), 12);
        Checks.due("the last", r.trials(1, 7, 11), 33);
        Checks.due("PLAN of 12", r.plan(1, 7, 0), 0);
        Checks.due("FEWEST of 12", r.fewest(1, 7), 0);
        Checks.due("13 are not", r.trials(1, 11, NONE), NONE);
        Checks.due("the first of 13", r.trials(1, 11, 0), NONE);
        Checks.due("PLAN of 13", r.plan(1, 11, 0), NONE);
        Checks.due("FEWEST of 13", r.fewest(1, 11), NONE);
        Checks.due("10 are told", r.trials(1, 3, 9), 20);
    }

    /** ALONE by LANE: 16, 8, 4 TICKS for PACE 1, 2, 4. */
    private static StickRace brooks(String... lanes) {
        StickRace r = new StickRace();
        for (String paces : lanes) {
            StringBuilder t = new StringBuilder();
            for (int y = 0; y < paces.length(); y++) {
                t.append(y == 0 ? "" : ";").append(("" + paces.charAt(y)).repeat(4));
            }
            Checks.due("BROOK", Checks.brook(r, t.toString()), r.count(0) - 1);
        }
        Checks.stick(r, "l1");
        Checks.stick(r, "l5");
        return r;
    }

    /** Promise 26. */
    private static void plan() {
        StickRace r = brooks("111", "112", "124");
        Checks.due("TRIAL 2 parts all", r.plan(7, 1, 0), 2);
        Checks.due("three pairs", r.plan(7, 1, 1), 3);
        Checks.due("of the last two TRIAL 1 is the first", r.plan(6, 1, 0), 1);
        Checks.due("one pair", r.plan(6, 1, 1), 1);
        Checks.due("of BROOKS 0 and 2", r.plan(5, 1, 0), 1);
        Checks.due("one BROOK has no pairs", r.plan(4, 1, 1), 0);
        Checks.due("then the first TRIAL", r.plan(4, 1, 0), 0);
        Checks.due("no TRIALS", r.plan(7, 2, 0), NONE);
        Checks.due("what 2", r.plan(7, 1, 2), NONE);
        Checks.due("what -1", r.plan(7, 1, -1), NONE);
        Checks.due("no BROOKS", r.plan(0, 1, 0), NONE);
        Checks.due("no BROOK 3", r.plan(8, 1, 0), NONE);
        Checks.due("no STICKS", r.plan(7, 0, 0), NONE);
        Checks.due("no STICK 2", r.plan(7, 4, 0), NONE);
        // Of LENGTH 2 the greater PACE counts: from LANE 1 it parts two pairs, from LANE 0 one.
        Checks.stick(r, "h5,l2");
        Checks.due("another STICK's TRIALS", r.plan(7, 4, 0), 1);
        Checks.due("two LANES at once", r.plan(7, 4, 1), 3);
        Checks.due("a TRIAL of the later STICK", brooks("141", "214").plan(3, 3, 1), 1);
        StickRace h = brooks("41", "42", "44");
        Checks.stick(h, "h9");
        // h9 has PACE 2 on LANE 0 everywhere; on LANE 1 it has 0, 0 and 2.
        Checks.due("h9 on LANE 1", h.plan(7, 4, 0), 1);
        Checks.due("h9 parts two pairs", h.plan(7, 4, 1), 2);
        Checks.due("as does FEWEST", h.fewest(7, 4), 2);
        Checks.due("several of two pairs", brooks("111", "211", "122").plan(7, 1, 0), 0);
    }

    /** Promise 27. */
    private static void fewest() {
        Checks.due("one TRIAL", brooks("111", "112", "124").fewest(7, 1), 4);
        Checks.due("any two do, so the first two", brooks("444", "242", "422").fewest(7, 1), 3);
        Checks.due("none parts any", brooks("444", "444").fewest(3, 1), 0);
        Checks.due("one BROOK alone", brooks("421", "444").fewest(1, 1), 0);
        Checks.due("no pair but those that are parted", brooks("44", "44", "42").fewest(7, 1), 2);
        // TRIALS 0 and 5 part all four BROOKS, so do 1 and 2 (fewer as bits), so do 2 and 5.
        Checks.due("the set with the lower TRIAL", brooks("111441", "212441", "221442", "222444").fewest(15, 1), 33);
        Checks.due("six BROOKS", brooks("11", "12", "14", "21", "22", "24").fewest(63, 1), 3);
        StickRace r = brooks("111", "112");
        Checks.due("no TRIALS", r.fewest(3, 2), 0);
        Checks.due("no BROOKS", r.fewest(0, 1), NONE);
        Checks.due("no BROOK 2", r.fewest(4, 1), NONE);
        Checks.due("no STICKS", r.fewest(3, 0), NONE);
        Checks.due("no STICK 2", r.fewest(3, 4), NONE);
        Checks.due("bits below 0", r.fewest(-1, 1), NONE);
    }

    /** Promise 28. */
    private static void sight() {
        StickRace r = new StickRace();
        Checks.due("no STICKS", r.sight(0, 0, 5), NONE);
        Checks.stick(r, "l1");
        Checks.due("no STICK 1", r.sight(1, 0, 5), NONE);
        Checks.due("no STICK -1", r.sight(-1, 0, 5), NONE);
        Checks.due("y -1", r.sight(0, -1, 5), NONE);
        Checks.due("y 6", r.sight(0, 6, 5), NONE);
        Checks.due("0 TICKS", r.sight(0, 0, 0), NONE);
        Checks.due("100 TICKS", r.sight(0, 0, 100), NONE);
        Checks.due("none yet", r.count(3), 0);
        Checks.due("the first", r.sight(0, 0, 1), 1);
        Checks.due("the second", r.sight(0, 5, 99), 2);
        for (int i = 3; i <= 10; i++) {
            Checks.due("SIGHT " + i, r.sight(0, 0, 50), i);
        }
        Checks.due("an eleventh", r.sight(0, 0, 50), NONE);
        Checks.due("ten", r.count(3), 10);
    }

    /** Promise 29. */
    private static void agree() {
        StickRace r = brooks("444", "42", "222", "111");
        Checks.due("no SIGHTS: all", r.agree(), 15);
        r.sight(0, 0, 4);
        Checks.due("4 TICKS from LANE 0", r.agree(), 3);
        r.sight(0, 2, 4);
        Checks.due("and from LANE 2", r.agree(), 1);
        r.weather(1, 2);
        // PACE 2 became 4, PACE 4 became 6.
        Checks.due("with HIGH 2 another one", r.agree(), 4);
        r.weather(1, 0);
        r.sight(1, 0, 99);
        Checks.due("where it CAN not lie nothing AGREES", r.agree(), 0);
        StickRace heavy = brooks("444", "222", "111");
        Checks.stick(heavy, "h9");
        heavy.sight(2, 1, 8);
        Checks.due("PACE 2 of a heavy one", heavy.agree(), 1);
        StickRace stuck = Checks.onBrook("444o;444o", "l1");
        stuck.sight(0, 1, 99);
        Checks.due("99: not OUT", stuck.agree(), 1);
        StickRace seed = Checks.onBrook("4@44;4444", "l1");
        seed.weather(2, 2);
        seed.sight(0, 0, 7);
        Checks.due("with seed 0", seed.agree(), 1);
    }

    /** Promise 30. */
    private static void stoned() {
        StickRace r = Checks.onBrook("44@4;4o44", "l1");
        r.weather(2, 0);
        int[] cells = {0, 1, 2, 3, 16, 18, 19};
        Checks.due("no SIGHTS: all but the STONE", r.stoned(0, NONE), cells.length);
        for (int i = 0; i < cells.length; i++) {
            Checks.due("the " + i + "-th", r.stoned(0, i), cells[i]);
        }
        Checks.due("no more", r.stoned(0, 7), NONE);
        Checks.due("-2", r.stoned(0, -2), NONE);
        Checks.due("BROOK 1", r.stoned(1, NONE), NONE);
        Checks.due("BROOK -1", r.stoned(-1, NONE), NONE);
        // As it is: x 2 in TICK 2, four TICKS on the EDDY, one more: 7. With the EDDY a STONE it strikes at x 1 and
        // stays, as LANE 1 has a STONE there; with a STONE at x 1 it is on LANE 1 then, ahead of that other STONE.
        Checks.due("ALONE", r.alone(0, 0, 0, 0L), 7);
        r.sight(0, 0, 99);
        Checks.due("two CELLS", r.stoned(0, NONE), 2);
        Checks.due("x 1", r.stoned(0, 0), 1);
        Checks.due("the EDDY", r.stoned(0, 1), 2);
        Checks.due("no third", r.stoned(0, 2), NONE);
        Checks.due("the BROOK has its EDDY still", r.brook(0, 3), 1);
        Checks.due("and no STONE more", r.brook(0, 2), 1);
        Checks.due("it does not AGREE itself", r.agree(), 0);

        StickRace s = Checks.onBrook("4444;4444", "l1");
        Checks.due("another BROOK", Checks.brook(s, "oooo;ooo1;ooo1;oooo"), 1);
        Checks.due("of the other one two CELLS", s.stoned(1, NONE), 2);
        s.sight(0, 0, 5);
        s.sight(0, 1, 4);
        int[] due = {1, 2, 3};
        Checks.due("two SIGHTS", s.stoned(0, NONE), 3);
        for (int i = 0; i < 3; i++) {
            Checks.due("two SIGHTS, the " + i + "-th", s.stoned(0, i), due[i]);
        }
        s.weather(1, 3);
        // PACE 7: x 1 with 3, x 3 with 2, OUT in TICK 3. A STONE bars nothing now, but its PACE is 1.
        Checks.due("HIGH 3", s.alone(0, 0, 0, 0L), 3);
        Checks.due("HIGH 3: none makes both AGREE", s.stoned(0, NONE), 0);
        StickRace t = Checks.onBrook("4444;4444", "l1");
        t.weather(1, 3);
        t.sight(0, 0, 6);
        Checks.due("HIGH 3: a STONE at the start", t.stoned(0, NONE), 1);
        Checks.due("HIGH 3: at x 0", t.stoned(0, 0), 0);
    }

    private static void fairest(StickRace r, int brook, int turns, int row, int gap) {
        Checks.due("fair " + brook + ", " + turns + ": the row", r.fair(brook, 0, turns, 0), row);
        Checks.due("fair " + brook + ", " + turns + ": by how much", r.fair(brook, 0, turns, 1), gap);
    }

    /** Promise 31. */
    private static void fair() {
        // Of the PACES 9, 4, 2, 1 the TICKS are 2, 4, 8, 16: WORTH 58, 56, 52, 44.
        StickRace r = brooks("941", "9241", "142", "99", "444444", "111111");
        fairest(r, 0, 2, 1, 2);
        fairest(r, 0, 3, 4, 42);
        fairest(r, 0, 4, NONE, NONE);
        fairest(r, 1, 2, 1, 2);
        fairest(r, 1, 3, 4, 50);
        fairest(r, 1, 4, 6, 6);
        fairest(r, 1, 5, NONE, NONE);
        // The best y first, wherever it lies: 56, 52, 44.
        fairest(r, 2, 3, 4, 40);
        fairest(r, 3, 2, 1, 0);
        fairest(r, 4, 4, 3, 0);
        fairest(r, 4, 5, 3, 56);
        fairest(r, 4, 6, 7, 0);
        fairest(r, 4, 7, NONE, NONE);
        fairest(r, 4, 1, NONE, NONE);
        fairest(r, 6, 2, NONE, NONE);
        fairest(r, -1, 2, NONE, NONE);
        Checks.due("STICK 2", r.fair(0, 2, 2, 0), NONE);
        Checks.due("STICK -1", r.fair(0, -1, 2, 0), NONE);
        Checks.due("what 2", r.fair(0, 0, 2, 2), NONE);
        Checks.due("what -1", r.fair(0, 0, 2, -1), NONE);
        Checks.due("too long for so many y", r.fair(4, 1, 3, 0), NONE);
        Checks.due("l5 in six LANES has two y", r.fair(4, 1, 2, 0), 1);
        // A y that is never OUT has a WORTH of -39.
        StickRace n = Checks.onBrook("4444;444o;o444", "l1");
        n.weather(0, 0);
        fairest(n, 0, 2, 1, n.alone(0, 0, 1, 0L) - n.alone(0, 0, 0, 0L));
        Checks.due("a y where it CAN not lie is none", n.fair(0, 0, 3, 0), NONE);
        StickRace never = Checks.onBrook("@444;@444", "l1");
        never.weather(2, 10);
        fairest(never, 0, 2, 1, 0);
        Checks.brook(never, "4444;444o");
        fairest(never, 1, 2, 1, 56 + 39);
    }
}
