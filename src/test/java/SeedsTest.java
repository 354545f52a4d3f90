/** Promises 18 to 24: over many seeds, ALONE, LUCK, BEST, CHOICE, SAME, CARVED. */
public final class SeedsTest {
    private static final int NONE = Checks.NONE;
    private static final int HIDDEN = Checks.HIDDEN;

    public static void main(String[] args) {
        odds();
        oddsAsRun();
        alone();
        luck();
        luckOfAll();
        best();
        choice();
        same();
        carved();
        Checks.finish("SeedsTest");
    }

    /**
     * RUNNER 0 is held on the EDDY, HOLD 2. Its draws with seed 0: 7 4 7 6 (OUT in TICK 7, first), 1: 4 3 6 0 4 5 0
     * (last), 2: 0 2 6 4 5 (OUT in TICK 8, ahead of RUNNER 1), 3: 9 3 5 8 (first). RUNNER 1 is OUT in TICK 8.
     */
    static StickRace eddyAgainstSlow() {
        StickRace r = Checks.onBrook("4@44;2222", "l1");
        r.weather(2, 2);
        r.runner(0, 0);
        r.runner(0, 1);
        return r;
    }

    /** Promise 18. */
    private static void odds() {
        StickRace r = eddyAgainstSlow();
        int[] wins = {1, 1, 2, 3};
        for (int n = 1; n <= 4; n++) {
            Checks.due("WINS of 0 over " + n, r.odds(0, n, 0), wins[n - 1]);
            Checks.due("WINS of 1 over " + n, r.odds(1, n, 0), n - wins[n - 1]);
            Checks.due("SUM of 0 over " + n, r.odds(0, n, 1), n - wins[n - 1]);
            Checks.due("SUM of 1 over " + n, r.odds(1, n, 1), wins[n - 1]);
        }
        Checks.due("over 40 seeds all are won", r.odds(0, 40, 0) + r.odds(1, 40, 0), 40);
        Checks.due("n 0", r.odds(0, 0, 0), NONE);
        Checks.due("n 41", r.odds(0, 41, 0), NONE);
        Checks.due("n -1", r.odds(0, -1, 0), NONE);
        Checks.due("RUNNER 2", r.odds(2, 1, 0), NONE);
        Checks.due("RUNNER -1", r.odds(-1, 1, 0), NONE);
        Checks.due("what 2", r.odds(0, 1, 2), NONE);
        Checks.due("what -1", r.odds(0, 1, -1), NONE);

        StickRace stuck = Checks.onBrook("444o;444o;4444", "l2", "l1");
        stuck.runner(0, 0);
        stuck.runner(1, 2);
        Checks.due("SUM with one that is never OUT", stuck.odds(0, 7, 1), 14);
        Checks.due("it never wins", stuck.odds(0, 7, 0), 0);
        StickRace high = Checks.onBrook("o444;4444", "l1");
        high.weather(1, 2);
        high.runner(0, 0);
        high.runner(0, 1);
        Checks.due("at high water", high.odds(1, 3, 0) + high.odds(0, 3, 0), 3);
        high.weather(1, 0);
        Checks.due("one CAN not lie at its start now", high.odds(1, 3, 0), NONE);
    }

    /** The RUNNERS as told count, not as they lie; and the RACE at hand stays as it was. */
    private static void oddsAsRun() {
        int[] wins = new int[3];
        int[] sums = new int[3];
        for (int n = 1; n <= 40; n++) {
            StickRace r = Checks.onBrook("4@443@4;44@4434;4444o44;333@444", "l1", "l2,h7", "f9");
            r.weather(0, 1);
            r.runner(2, 0);
            r.runner(1, 2);
            r.runner(0, 1);
            r.start(n - 1);
            r.tick(60);
            for (int i = 0; i < 3; i++) {
                wins[i] += r.look(i, 4) == 0 ? 1 : 0;
                sums[i] += r.look(i, 4);
            }
            r.start(5);
            r.tick(3);
            String before = Checks.state(r);
            for (int i = 0; i < 3; i++) {
                Checks.due("WINS of " + i + " over " + n, r.odds(i, n, 0), wins[i]);
                Checks.due("SUM of " + i + " over " + n, r.odds(i, n, 1), sums[i]);
            }
            Checks.unchanged("odds()", r, before);
        }
    }

    /** Promise 19. */
    private static void alone() {
        StickRace r = Checks.onBrook("4444;3333;999o;4@44", "l1", "l2", "l5");
        Checks.due("PACE 4", r.alone(0, 0, 0, 0L), 4);
        Checks.due("PACE 3", r.alone(0, 0, 1, 0L), 6);
        Checks.due("l2: the greater PACE", r.alone(0, 1, 0, 0L), 4);
        // LANE 2: x 2, a STRIKE in TICK 2, to LANE 3 then, and on from x 2 by PACE 4.
        Checks.due("aside from a STONE", r.alone(0, 0, 2, 0L), 4);
        r.weather(2, 2);
        long[] seeds = {0, 1, 2};
        int[] due = {7, 14, 8};
        for (int i = 0; i < 3; i++) {
            Checks.due("EDDY, seed " + seeds[i], r.alone(0, 0, 3, seeds[i]), due[i]);
        }
        r.weather(2, 10);
        Checks.due("held for ever", r.alone(0, 0, 3, 0L), 99);
        Checks.due("too long", r.alone(0, 2, 0, 0L), NONE);
        Checks.due("l2 out of the BROOK", r.alone(0, 1, 3, 0L), NONE);
        Checks.due("y 4", r.alone(0, 0, 4, 0L), NONE);
        Checks.due("y -1", r.alone(0, 0, -1, 0L), NONE);
        Checks.due("BROOK 1", r.alone(1, 0, 0, 0L), NONE);
        Checks.due("BROOK -1", r.alone(-1, 0, 0, 0L), NONE);
        Checks.due("STICK 3", r.alone(0, 3, 0, 0L), NONE);
        Checks.due("no RUNNER by that", r.count(2), 0);
        // PACE 1 on fifteen CELLS and 4 on the last: 60 and 1 TICKS; with 5 ahead of it 60.
        StickRace slow = new StickRace();
        Checks.brook(slow, "1111111111111111;1111111111111114");
        Checks.brook(slow, "111111111111111;111111111111111");
        Checks.stick(slow, "l1");
        Checks.due("not OUT by 60", slow.alone(0, 0, 1, 0L), 99);
        Checks.due("OUT in TICK 60", slow.alone(1, 0, 0, 0L), 60);
    }

    /** Promise 20. */
    private static void luck() {
        StickRace r = eddyAgainstSlow();
        // RUNNER 1 wins 1 of 3 seeds. One round: 666666 parts of 0 won, 333333 of 1.
        Checks.due("1 round, 0 won", r.luck(1, 3, 1, 0), 999999);
        Checks.due("1 round, 1 won", r.luck(1, 3, 1, 1), 333333);
        // Two: 444444 of 0; 222222 and 222222 of 1; 111111 of 2.
        Checks.due("2 rounds, 0 won", r.luck(1, 3, 2, 0), 999999);
        Checks.due("2 rounds, 1 won", r.luck(1, 3, 2, 1), 555555);
        Checks.due("2 rounds, 2 won", r.luck(1, 3, 2, 2), 111111);
        // Three: 296296; 296296 and 148148; 148148 and 74074; 37037.
        Checks.due("3 rounds, 1 won", r.luck(1, 3, 3, 1), 444444 + 222222 + 37037);
        Checks.due("3 rounds, 3 won", r.luck(1, 3, 3, 3), 37037);
        Checks.due("always won", r.luck(0, 1, 20, 20), 1000000);
        Checks.due("never won", r.luck(1, 1, 20, 1), 0);
        Checks.due("never won: 0 won", r.luck(1, 1, 20, 0), 1000000);
        Checks.due("rounds 0", r.luck(0, 1, 0, 0), NONE);
        Checks.due("rounds 21", r.luck(0, 1, 21, 0), NONE);
        Checks.due("won 4 of 3", r.luck(0, 1, 3, 4), NONE);
        Checks.due("won -1", r.luck(0, 1, 3, -1), NONE);
        Checks.due("n 0", r.luck(0, 0, 3, 1), NONE);
        Checks.due("n 41", r.luck(0, 41, 3, 1), NONE);
        Checks.due("RUNNER 2", r.luck(2, 1, 3, 1), NONE);
        Checks.due("RUNNER -1", r.luck(-1, 1, 3, 1), NONE);
        StickRace high = Checks.onBrook("o444;4444", "l1");
        high.weather(1, 2);
        high.runner(0, 0);
        Checks.due("at high water", high.luck(0, 1, 1, 1), 1000000);
        high.weather(1, 1);
        Checks.due("it CAN not lie at its start now", high.luck(0, 1, 1, 1), NONE);
    }

    private static void luckOfAll() {
        for (int n = 1; n <= 40; n += 13) {
            StickRace r = eddyAgainstSlow();
            long wins = r.odds(0, n, 0);
            long[] parts = new long[22];
            parts[0] = 1000000;
            for (int rounds = 1; rounds <= 20; rounds++) {
                long[] next = new long[22];
                for (int j = 0; j <= rounds; j++) {
                    next[j] = parts[j] * (n - wins) / n + (j > 0 ? parts[j - 1] * wins / n : 0);
                }
                parts = next;
                long tail = 0;
                for (int won = rounds; won >= 0; won--) {
                    tail += parts[won];
                    Checks.due("luck over " + n + " of " + rounds + ", " + won, r.luck(0, n, rounds, won), tail);
                }
            }
        }
    }

    /** Promise 21. */
    private static void best() {
        StickRace r = new StickRace();
        Checks.brook(r, "2222;4444;4444");
        Checks.brook(r, "o444;o444");
        Checks.stick(r, "h9");
        Checks.stick(r, "l1");
        Checks.stick(r, "l2");
        Checks.stick(r, "l4");
        int[][] due = {
            // STICKS, the STICK, y, the sum over 3 seeds: PACE 4 less 2 is 2, eight TICKS
            {1, 0, 1, 24}, {2, 1, 1, 12}, {4, 2, 0, 12}, {7, 1, 1, 12}, {15, 1, 1, 12}, {5, 2, 0, 12}, {8, NONE, NONE, NONE},
        };
        for (int[] d : due) {
            for (int what = 0; what < 3; what++) {
                Checks.due("best of " + d[0] + " " + what, r.best(0, d[0], 3, what), d[1 + what]);
            }
        }
        Checks.due("none CAN lie on BROOK 1", r.best(1, 15, 3, 0), NONE);
        r.weather(1, 2);
        Checks.due("at high water they CAN", r.best(1, 15, 1, 0), 1);
        r.weather(1, 0);
        Checks.due("no STICKS", r.best(0, 0, 3, 0), NONE);
        Checks.due("no STICK 4", r.best(0, 16, 3, 0), NONE);
        Checks.due("bits below 0", r.best(0, -1, 3, 0), NONE);
        Checks.due("BROOK 2", r.best(2, 1, 3, 0), NONE);
        Checks.due("n 0", r.best(0, 1, 0, 0), NONE);
        Checks.due("n 41", r.best(0, 1, 41, 0), NONE);
        Checks.due("what 3", r.best(0, 1, 3, 3), NONE);
        Checks.due("what -1", r.best(0, 1, 3, -1), NONE);
        // Seeds count: with HOLD 2 the EDDY's LANE takes 7, 14, 8 TICKS, the other one always 8.
        StickRace e = Checks.onBrook("4@44;2222", "l1");
        e.weather(2, 2);
        Checks.due("over 1 seed the EDDY's LANE", e.best(0, 1, 1, 1), 0);
        Checks.due("7 TICKS", e.best(0, 1, 1, 2), 7);
        Checks.due("over 3 seeds the other", e.best(0, 1, 3, 1), 1);
        Checks.due("24 TICKS", e.best(0, 1, 3, 2), 24);
    }

    private static void chosen(StickRace r, int one, int other, int n, int y, int z, int worth) {
        int[] due = {y, z, worth};
        for (int what = 0; what < 3; what++) {
            String call = "choice of " + one + ", " + other + " over " + n + ", " + what;
            Checks.due(call, r.choice(0, one, other, n, what), due[what]);
        }
    }

    /** Promise 22. */
    private static void choice() {
        StickRace r = Checks.onBrook("2222;4444;4444;1111", "l1", "h9", "l2", "l3", "l4");
        // From LANE 1 or 2 the first wins against all that is left.
        chosen(r, 0, 0, 5, 1, 0, 5);
        // A heavy one (PACE less 2) loses always; of all that are alike the lowest y, and the lowest reply that wins.
        chosen(r, 1, 0, 5, 0, 1, -5);
        // l2 at 0 leaves 2 and 3; both PACES are 4 there and it is RUNNER 0.
        chosen(r, 2, 0, 2, 0, 2, 2);
        // l3 fits beside l1 alone: at 0 it leaves LANE 3, at 1 it leaves LANE 0.
        chosen(r, 3, 0, 2, 0, 3, 2);
        chosen(r, 0, 3, 2, 0, 1, -2);
        chosen(r, 2, 2, 1, 0, 2, 1);
        chosen(r, 4, 0, 1, HIDDEN, HIDDEN, HIDDEN);
        chosen(r, 2, 3, 1, HIDDEN, HIDDEN, HIDDEN);
        chosen(r, 5, 0, 1, HIDDEN, HIDDEN, HIDDEN);
        chosen(r, 0, -1, 1, HIDDEN, HIDDEN, HIDDEN);
        chosen(r, 0, 0, 0, HIDDEN, HIDDEN, HIDDEN);
        chosen(r, 0, 0, 41, HIDDEN, HIDDEN, HIDDEN);
        Checks.due("BROOK 1", r.choice(1, 0, 0, 1, 0), HIDDEN);
        Checks.due("what 3", r.choice(0, 0, 0, 1, 3), HIDDEN);
        Checks.due("what -1", r.choice(0, 0, 0, 1, -1), HIDDEN);
        // Over 3 seeds the EDDY's LANE wins 2 of 3 as RUNNER 0; as RUNNER 1 it wins with seed 0 alone.
        StickRace e = Checks.onBrook("4@44;2222", "l1");
        e.weather(2, 2);
        chosen(e, 0, 0, 3, 0, 1, 1);
        chosen(e, 0, 0, 1, 0, 1, 1);
        chosen(e, 0, 0, 2, 0, 1, 0);
        // A draw of nobody: both are held for ever.
        StickRace held = Checks.onBrook("@444;@444", "l1");
        held.weather(2, 10);
        chosen(held, 0, 0, 4, 0, 1, 0);
    }

    /** Promise 23. */
    private static void same() {
        // With HIGH 0 or 1 the STONE lets RUNNER 1 win, with HIGH 2 or 3 RUNNER 0 wins.
        StickRace r = Checks.onBrook("4o44;1111", "l1");
        Checks.due("no RUNNERS", r.same(0, 0, 1), NONE);
        r.runner(0, 0);
        r.runner(0, 1);
        r.weather(1, 3);
        for (int a = 0; a <= 3; a++) {
            for (int b = 0; b <= 3; b++) {
                Checks.due("same " + a + " " + b, r.same(a, b, 40), a / 2 == b / 2 ? 40 : 0);
            }
        }
        Checks.due("HIGH stays", r.count(7), 3);
        Checks.due("HIGH 4", r.same(0, 4, 1), NONE);
        Checks.due("HIGH -1", r.same(-1, 0, 1), NONE);
        Checks.due("HIGH 4 first", r.same(4, 0, 1), NONE);
        Checks.due("HIGH -1 last", r.same(0, -1, 1), NONE);
        Checks.due("n 0", r.same(0, 0, 0), NONE);
        Checks.due("n 41", r.same(0, 0, 41), NONE);
        StickRace one = Checks.onBrook("444o;444o", "l1");
        one.runner(0, 1);
        Checks.due("OUT or never OUT", one.same(1, 2, 5), 0);
        // Without WIND the STONE ahead is met with HIGH 0 alone; with WIND RUNNER 0 leaves that LANE ahead of it.
        StickRace w = Checks.onBrook("444o4444;o4444444;o3333333;33333333", "f9", "l1");
        w.runner(0, 0);
        w.runner(1, 3);
        Checks.due("without WIND", w.same(0, 2, 1), same(w, 0, 2));
        w.weather(0, 1);
        Checks.due("with WIND", w.same(0, 2, 1), same(w, 0, 2));
        // Of the first four seeds RUNNER 0 loses with seed 1 alone; with HIGH 1 it loses with none.
        StickRace e = eddyAgainstSlow();
        int[] due = {1, 1, 2, 3};
        for (int n = 1; n <= 4; n++) {
            Checks.due("same over " + n, e.same(0, 1, n), due[n - 1]);
            Checks.due("same the other way over " + n, e.same(1, 0, n), due[n - 1]);
        }
        StickRace high = Checks.onBrook("o444;4444", "l1");
        high.weather(1, 2);
        high.runner(0, 0);
        high.weather(1, 0);
        Checks.due("CAN not lie with a", high.same(1, 2, 3), NONE);
        Checks.due("CAN not lie with b", high.same(2, 1, 3), NONE);
        Checks.due("as it is now does not count", high.same(2, 3, 3), 3);
    }

    /** Whether the RACE with seed 0 ends alike, by two RACES. */
    private static int same(StickRace r, int a, int b) {
        int before = r.count(7);
        StringBuilder places = new StringBuilder();
        for (int high : new int[] {a, b}) {
            r.weather(1, high);
            r.start(0L);
            r.tick(60);
            for (int i = 0; i < r.count(2); i++) {
                places.append(r.look(i, 4));
            }
        }
        r.weather(1, before);
        int half = places.length() / 2;
        return places.substring(0, half).equals(places.substring(half)) ? 1 : 0;
    }

    private static void carving(StickRace r, int y, int rule, int length, int heavy, int feather, int ticks) {
        int[] due = {length, heavy, feather, ticks};
        for (int what = 0; what < 4; what++) {
            Checks.due("carved from " + y + " by " + rule + ", " + what, r.carved(0, y, rule, what), due[what]);
        }
    }

    /** Promise 24. */
    private static void carved() {
        StickRace r = Checks.onBrook("1111;9999;o999", "l1");
        carving(r, 0, 0, NONE, NONE, NONE, NONE);
        carving(r, 0, 1, NONE, NONE, NONE, NONE);
        carving(r, 0, 2, 1, 0, 0, 16);
        carving(r, 0, 3, 1, 0, 0, 16);
        // Of LENGTH 2 the PULL is 9.
        carving(r, 0, 4, 2, 0, 0, 2);
        carving(r, 0, 30, 2, 0, 0, 2);
        carving(r, 2, 30, NONE, NONE, NONE, NONE);
        Checks.due("BROOK 1", r.carved(1, 0, 30, 0), NONE);
        Checks.due("y 3", r.carved(0, 3, 30, 0), NONE);
        Checks.due("y -1", r.carved(0, -1, 30, 0), NONE);
        Checks.due("rule 31", r.carved(0, 0, 31, 0), NONE);
        Checks.due("rule -1", r.carved(0, 0, -1, 0), NONE);
        Checks.due("what 4", r.carved(0, 0, 30, 4), NONE);
        Checks.due("what -1", r.carved(0, 0, 30, -1), NONE);
        // A feather takes it to the fast LANE in TICK 4, at x 1; OUT in TICK 6.
        StickRace f = Checks.onBrook("1111;o999", "l1");
        f.weather(0, 1);
        carving(f, 0, 10, 1, 0, 0, 16);
        carving(f, 0, 11, 1, 0, 9, 6);
        f.weather(0, 3);
        carving(f, 0, 4, 1, 0, 0, 16);
        carving(f, 0, 5, 1, 0, 3, 6);
        f.weather(0, -3);
        carving(f, 0, 30, 1, 0, 0, 16);
        Checks.due("the STICKS told are as they were", f.stick(0, 1), 5);
        // PULL 8 stops on the PACE of 1 at x 2 for four TICKS; PULL 7 (HEAVY 7) stops at x 1, then goes over it.
        StickRace h = Checks.onBrook("8818;1111", "l1");
        carving(h, 0, 8, 1, 0, 0, 6);
        carving(h, 0, 9, 1, 7, 0, 3);
        carving(h, 0, 30, 1, 7, 0, 3);
        // Here HEAVY 7 and 8 stand still for ever on the PACE of 1 at x 2, HEAVY 9 stops at x 1.
        StickRace nine = Checks.onBrook("9818;1111", "l1");
        carving(nine, 0, 10, 1, 0, 0, 5);
        carving(nine, 0, 11, 1, 9, 0, 3);
        // Only one of LENGTH 5 reaches the fast LANE: 13 by 5.
        StickRace five = Checks.onBrook("1111;1111;1111;1111;9999", "l1");
        carving(five, 0, 9, 1, 0, 0, 16);
        carving(five, 0, 10, 5, 0, 0, 8);
        StickRace never = Checks.onBrook("@444;@444", "l1");
        never.weather(2, 10);
        carving(never, 0, 30, 1, 0, 0, 99);
    }
}
