import java.util.Arrays;

/** Promises 39 to 44: BY TURNS, DUEL, LADDER, SPAN and MIDDLE, CLOSE, count. */
public final class TurnsTest {
    private static final int NONE = Checks.NONE;
    private static final int HIDDEN = Checks.HIDDEN;

    public static void main(String[] args) {
        rounds();
        duel();
        ladder();
        reach();
        close();
        count();
        Checks.finish("TurnsTest");
    }

    /** Promise 39. */
    private static void rounds() {
        StickRace r = Checks.onBrook("2222;4444;1111", "l1", "h9", "l2");
        Checks.due("no RUNNERS", r.rounds(0, 1, 0), NONE);
        // A heavy RUNNER 1: LANES (by k) of RUNNERS 0, 1, 2: 0 1 2, then 1 2 0, then 2 0 1.
        r.runner(0, 0);
        r.runner(1, 1);
        r.runner(0, 2);
        // TICKS of k 0: 8, 8, 16 (both in TICK 8 from x 3: RUNNER 0 first); k 1: 4, never, 8; k 2: 16, never, 4.
        int[][] due = {{2, 0 + 0 + 1, 3}, {0, 1 + 3 + 3, 3}, {1, 2 + 1 + 0, 3}};
        for (int i = 0; i < 3; i++) {
            Checks.due("WINS of " + i, r.rounds(i, 5, 0), 5 * due[i][0]);
            Checks.due("SUM of " + i, r.rounds(i, 5, 1), 5 * due[i][1]);
            Checks.due("how many k for " + i, r.rounds(i, 5, 2), due[i][2]);
        }
        Checks.due("RUNNER 3", r.rounds(3, 1, 0), NONE);
        Checks.due("RUNNER -1", r.rounds(-1, 1, 0), NONE);
        Checks.due("n 0", r.rounds(0, 0, 0), NONE);
        Checks.due("n 41", r.rounds(0, 41, 2), NONE);
        Checks.due("what 3", r.rounds(0, 1, 3), NONE);
        Checks.due("what -1", r.rounds(0, 1, -1), NONE);

        // l2 at 0 and 1, l1 at 2: turned, l2 would lie out of the BROOK.
        StickRace l = Checks.onBrook("2222;4444;1111", "l1", "h9", "l2");
        l.runner(2, 0);
        l.runner(0, 2);
        Checks.due("k 0 alone counts", l.rounds(0, 3, 2), 1);
        Checks.due("its WINS", l.rounds(0, 3, 0), 3);
        Checks.due("the other's SUM", l.rounds(1, 3, 1), 3);
        // l2 at 1 and 2, l1 at 0, l1 at 3: turned by 1 l2 is at 0 and 1, l1 at 3 and 1: two on one CELL.
        StickRace two = Checks.onBrook("4444;4444;4444;4444", "l2", "l1");
        two.runner(0, 1);
        two.runner(1, 0);
        two.runner(1, 3);
        Checks.due("two on one CELL, or out of the BROOK", two.rounds(0, 1, 2), 1);
        StickRace high = Checks.onBrook("o444;4444", "l1", "l2");
        high.weather(1, 2);
        high.runner(0, 0);
        high.runner(0, 1);
        Checks.due("at high water", high.rounds(0, 1, 2), 2);
        high.weather(1, 0);
        Checks.due("none CAN lie: no k", high.rounds(0, 1, 2), 0);
        Checks.due("no WINS", high.rounds(0, 1, 0), 0);
        Checks.due("no SUM", high.rounds(0, 1, 1), 0);
        // RUNNER 0 from LANE 2, RUNNER 1 from LANE 1: turned by 1 the other way round.
        StickRace swap = Checks.onBrook("o444;1111;4444", "l1");
        swap.runner(0, 2);
        swap.runner(0, 1);
        Checks.due("k 0 and k 1 of two", swap.rounds(0, 1, 2), 2);
        Checks.due("one WIN each", swap.rounds(0, 1, 0), 1);
        Checks.due("SUM 1 each", swap.rounds(1, 1, 1), 1);
        StickRace e = SeedsTest.eddyAgainstSlow();
        // k 0: RUNNER 0 wins with seeds 0, 2, 3 of four. Turned it is slow, and with seed 2 both are OUT in TICK 8.
        Checks.due("k 0 and k 1", e.rounds(0, 1, 2), 2);
        Checks.due("over one seed each wins once", e.rounds(0, 1, 0), 1);
        Checks.due("and the other one", e.rounds(1, 1, 0), 1);
        Checks.due("over three seeds", e.rounds(0, 3, 0), 2 + 2);
        Checks.due("SUM over three seeds", e.rounds(1, 3, 1), 2 + 2);
    }

    /** Promise 40. */
    private static void duel() {
        StickRace r = Checks.onBrook("2222;4444", "l1", "h9", "l2", "h7");
        // y 0, z 1: lost; y 1, z 0: won.
        Checks.due("alike", r.duel(0, 0, 0, 4), 0);
        // PACE 2 against 2 and RUNNER 0; PACE 4 against 0.
        Checks.due("against a heavy one", r.duel(0, 0, 1, 4), 8);
        // PACE 0 loses to 4; PACE 2 against 2 is won by RUNNER 0.
        Checks.due("the heavy one first", r.duel(0, 1, 0, 4), 0);
        // h7 has PACE 1 and 3: 2 loses to 3, 4 wins over 1; RUNNER 0 as h7: 1 loses, 3 wins.
        Checks.due("won and lost", r.duel(0, 0, 3, 1), 0);
        Checks.due("both can be nowhere", r.duel(0, 0, 2, 4), HIDDEN);
        Checks.due("both can be nowhere, either way", r.duel(0, 2, 0, 4), HIDDEN);
        Checks.due("BROOK 1", r.duel(1, 0, 0, 4), HIDDEN);
        Checks.due("BROOK -1", r.duel(-1, 0, 0, 4), HIDDEN);
        Checks.due("STICK 4", r.duel(0, 4, 0, 4), HIDDEN);
        Checks.due("STICK 4 as the other", r.duel(0, 0, 4, 4), HIDDEN);
        Checks.due("n 0", r.duel(0, 0, 1, 0), HIDDEN);
        Checks.due("n 41", r.duel(0, 0, 1, 41), HIDDEN);
        Checks.due("lost from everywhere", Checks.onBrook("4444;4444", "l1", "h9").duel(0, 1, 0, 4), -8);
        StickRace level = Checks.onBrook("4444;4444;4444", "l1");
        Checks.due("RUNNER 0 is first when all is alike: six pairs", level.duel(0, 0, 0, 40), 240);
        StickRace e = Checks.onBrook("4@44;2222", "l1");
        e.weather(2, 2);
        // RUNNER 0 on the EDDY's LANE: 2 of 3; on the other LANE: it wins with seeds 1, 2 (TICK 8 both).
        Checks.due("seeds", e.duel(0, 0, 0, 3), 1 + 1);
        Checks.due("no RUNNERS by that", e.count(2), 0);
    }

    /** Promise 41. */
    private static void ladder() {
        StickRace r = new StickRace();
        Checks.brook(r, "2222;4444;4444");
        Checks.brook(r, "o444;o444");
        String[] sticks = {"h9", "l4", "h7", "l1", "l2", "f1"};
        for (String s : sticks) {
            Checks.stick(r, s);
        }
        // 8 TICKS for h9, 6 for h7, 4 for l1, l2 and f1.
        int[][] due = {{63, 3, 4, 5, 2, 0}, {7, 2, 0}, {1, 0}, {2}, {34, 5}, {21, 4, 2, 0}};
        for (int[] d : due) {
            Checks.due("ladder of " + d[0], r.ladder(0, d[0], 2, NONE), d.length - 1);
            for (int i = 1; i < d.length; i++) {
                Checks.due("ladder of " + d[0] + ", " + (i - 1), r.ladder(0, d[0], 2, i - 1), d[i]);
            }
            Checks.due("ladder of " + d[0] + ", one more", r.ladder(0, d[0], 2, d.length - 1), NONE);
            Checks.due("ladder of " + d[0] + ", -2", r.ladder(0, d[0], 2, -2), NONE);
        }
        Checks.brook(r, "4444;1111");
        Checks.due("the y of LANE 0 is l1's BEST", r.ladder(2, 12, 2, 0), 3);
        Checks.due("then h7", r.ladder(2, 12, 2, 1), 2);
        Checks.due("l2, which fits from LANE 0 alone", r.ladder(2, 16, 2, NONE), 1);
        Checks.brook(r, "4444;1111;9999");
        Checks.due("a heavy one from LANE 2, l2 from LANE 1", r.ladder(3, 17, 2, 0), 4);
        Checks.due("where none CAN lie", r.ladder(1, 63, 2, NONE), 0);
        Checks.due("where none CAN lie, the first", r.ladder(1, 63, 2, 0), NONE);
        Checks.due("no STICKS", r.ladder(0, 0, 2, NONE), NONE);
        Checks.due("no STICK 6", r.ladder(0, 64, 2, NONE), NONE);
        Checks.due("bits below 0", r.ladder(0, -1, 2, NONE), NONE);
        Checks.due("BROOK 4", r.ladder(4, 1, 2, NONE), NONE);
        Checks.due("BROOK -1", r.ladder(-1, 1, 2, NONE), NONE);
        Checks.due("n 0", r.ladder(0, 1, 0, NONE), NONE);
        Checks.due("n 41", r.ladder(0, 1, 41, NONE), NONE);
        // h5 and h6 are fastest, h7 and h8 come next (PACE less 1), then h9 (less 2).
        StickRace ten = Checks.onBrook("4444;4444", "h9", "h8", "h7", "h6", "h5", "h9", "h8", "h7", "h6", "h5");
        int[] order = {3, 4, 8, 9, 1, 2, 6, 7, 0, 5};
        for (int i = 0; i < 10; i++) {
            Checks.due("of ten the " + i + "-th", ten.ladder(0, 1023, 40, i), order[i]);
        }
    }

    /** Promise 42. */
    private static void reach() {
        StickRace r = Checks.onBrook("4@44;2222;o444", "l1", "l4");
        r.weather(2, 2);
        // 7, 14, 8 TICKS with seeds 0, 1, 2, and 7 with seed 3.
        int[][] due = {{1, 7, 7, 7}, {2, 7, 14, 7}, {3, 7, 14, 8}, {4, 7, 14, 7}};
        for (int[] d : due) {
            for (int what = 0; what < 3; what++) {
                Checks.due("reach over " + d[0] + ", " + what, r.reach(0, 0, 0, d[0], what), d[1 + what]);
            }
        }
        int[] all = new int[40];
        for (int seed = 0; seed < 40; seed++) {
            all[seed] = r.alone(0, 0, 0, seed);
        }
        for (int n = 1; n <= 40; n++) {
            int[] sorted = Arrays.copyOf(all, n);
            Arrays.sort(sorted);
            Checks.due("least over " + n, r.reach(0, 0, 0, n, 0), sorted[0]);
            Checks.due("most over " + n, r.reach(0, 0, 0, n, 1), sorted[n - 1]);
            Checks.due("MIDDLE over " + n, r.reach(0, 0, 0, n, 2), sorted[(n - 1) / 2]);
        }
        Checks.due("no EDDY", r.reach(0, 0, 1, 40, 1), 8);
        Checks.due("on a STONE", r.reach(0, 0, 2, 1, 0), NONE);
        Checks.due("too long", r.reach(0, 1, 0, 1, 0), NONE);
        Checks.due("y 3", r.reach(0, 0, 3, 1, 0), NONE);
        Checks.due("y -1", r.reach(0, 0, -1, 1, 0), NONE);
        Checks.due("BROOK 1", r.reach(1, 0, 0, 1, 0), NONE);
        Checks.due("STICK 2", r.reach(0, 2, 0, 1, 0), NONE);
        Checks.due("n 0", r.reach(0, 0, 0, 0, 0), NONE);
        Checks.due("n 41", r.reach(0, 0, 0, 41, 0), NONE);
        Checks.due("what 3", r.reach(0, 0, 0, 1, 3), NONE);
        Checks.due("what -1", r.reach(0, 0, 0, 1, -1), NONE);
    }

    /** Promise 43. */
    private static void close() {
        StickRace r = Checks.onBrook("4444;4444;1111;4444", "l1");
        Checks.due("no RUNNERS", r.close(1), NONE);
        r.runner(0, 2);
        Checks.due("one RUNNER", r.close(1), NONE);
        r.runner(0, 0);
        Checks.due("the second is late", r.close(9), 0);
        r.runner(0, 1);
        Checks.due("the first two OUT, whoever they are", r.close(9), 9);
        Checks.due("n 0", r.close(0), NONE);
        Checks.due("n 41", r.close(41), NONE);
        StickRace e = SeedsTest.eddyAgainstSlow();
        int[] due = {0, 0, 1, 1};
        for (int n = 1; n <= 4; n++) {
            Checks.due("seed 2 is close: over " + n, e.close(n), due[n - 1]);
        }
        StickRace never = Checks.onBrook("@444;@444", "l1");
        never.weather(2, 10);
        never.runner(0, 0);
        never.runner(0, 1);
        Checks.due("none is OUT", never.close(3), 0);
        StickRace high = Checks.onBrook("o444;4444", "l1");
        high.weather(1, 2);
        high.runner(0, 0);
        high.runner(0, 1);
        Checks.due("at high water", high.close(3), 0);
        high.weather(1, 0);
        Checks.due("one CAN not lie at its start now", high.close(3), NONE);
    }

    /** Promise 44. */
    private static void count() {
        StickRace r = Checks.onBrook("4444;4444", "l1", "l2", "h1");
        Checks.brook(r, "4444;4444");
        r.runner(0, 0);
        r.sight(0, 0, 4);
        r.sight(0, 0, 5);
        r.sight(0, 0, 6);
        r.sight(0, 0, 7);
        Checks.tape(r, "l1,h2");
        r.weather(0, -2);
        r.weather(1, 1);
        r.weather(2, 7);
        int[] due = {2, 3, 1, 4, 5, NONE, -2, 1, 7};
        for (int what = 0; what <= 8; what++) {
            Checks.due("count " + what, r.count(what), due[what]);
        }
        r.start(0L);
        Checks.due("TICKS at the START", r.count(5), 0);
        r.tick(2);
        Checks.due("TICKS", r.count(5), 2);
        Checks.due("count 9", r.count(9), HIDDEN);
        Checks.due("count -1", r.count(-1), HIDDEN);
    }
}
