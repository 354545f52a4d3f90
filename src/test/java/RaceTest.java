import java.math.BigInteger;

/** Promises 11 to 17: RUNNERS, a RACE by TICKS, what of it can be looked at. */
public final class RaceTest {
    private static final int NONE = Checks.NONE;
    private static final int HIDDEN = Checks.HIDDEN;

    public static void main(String[] args) {
        on();
        runner();
        start();
        tickBounds();
        rest();
        pull();
        waves();
        order();
        sidesOfStrikes();
        strikesAtRunners();
        wind();
        eddies();
        draws();
        highWater();
        places();
        look();
        lies();
        Checks.finish("RaceTest");
    }

    /** Starts the RACE with seed 0 and runs TICKS one by one. */
    private static void run(StickRace r, int ticks) {
        Checks.due("start", r.start(0L), true);
        for (int t = 0; t < ticks; t++) {
            r.tick(1);
        }
    }

    /** x, y, REST, out, PLACE, held, STRUCK of a RUNNER. */
    private static void looks(String when, StickRace r, int runner, int... due) {
        for (int what = 0; what < due.length; what++) {
            Checks.due(when + ": look(" + runner + ", " + what + ")", r.look(runner, what), due[what]);
        }
    }

    /** Promise 11. */
    private static void on() {
        StickRace r = Checks.onBrook("4444;4444", "l1");
        r.runner(0, 0);
        run(r, 2);
        String before = Checks.state(r);
        Checks.due("no BROOK 1", r.on(1), false);
        Checks.due("no BROOK -1", r.on(-1), false);
        Checks.unchanged("on() that is refused", r, before);
        Checks.due("the same BROOK", r.on(0), true);
        Checks.due("all RUNNERS are gone", r.count(2), 0);
        Checks.due("so is the RACE", r.count(5), NONE);
        Checks.due("nobody lies there", r.lies(2, 0), NONE);
        Checks.due("nothing is remembered", r.was(0, 0, 0), NONE);
        Checks.due("RUNNERS are taken again", r.runner(0, 0), 0);
    }

    /** Promise 12. */
    private static void runner() {
        StickRace r = new StickRace();
        Checks.brook(r, "4444;o444;4444;4444;4444;4444");
        Checks.stick(r, "l1");
        Checks.stick(r, "l2");
        Checks.due("no BROOK told", r.runner(0, 0), NONE);
        r.on(0);
        Checks.due("on a STONE", r.runner(0, 1), NONE);
        Checks.due("partly on a STONE", r.runner(1, 0), NONE);
        Checks.due("out of the BROOK", r.runner(1, 5), NONE);
        Checks.due("y 6", r.runner(0, 6), NONE);
        Checks.due("y -1", r.runner(0, -1), NONE);
        Checks.due("no STICK 2", r.runner(2, 0), NONE);
        Checks.due("no STICK -1", r.runner(-1, 0), NONE);
        Checks.due("none yet", r.count(2), 0);
        Checks.due("the first", r.runner(1, 2), 0);
        Checks.due("another one is there", r.runner(0, 3), NONE);
        Checks.due("another one is on one of two CELLS", r.runner(1, 3), NONE);
        Checks.due("the second", r.runner(1, 4), 1);
        r.weather(1, 2);
        Checks.due("on a STONE at high water", r.runner(1, 0), 2);
        Checks.due("three", r.count(2), 3);

        StickRace six = Checks.onBrook("4444;4444;4444;4444;4444;4444", "l1");
        for (int i = 0; i < 6; i++) {
            Checks.due("RUNNER " + i, six.runner(0, 5 - i), i);
        }
        Checks.due("a seventh", six.runner(0, 0), NONE);
        StickRace started = Checks.onBrook("4444;4444", "l1");
        started.runner(0, 0);
        run(started, 0);
        Checks.due("a RACE was started", started.runner(0, 1), NONE);
        started.tick(60);
        Checks.due("and is over", started.runner(0, 1), NONE);
    }

    /** Promise 13. */
    private static void start() {
        StickRace r = new StickRace();
        Checks.due("no BROOK", r.start(0L), false);
        r = Checks.onBrook("4444;o444", "l1");
        Checks.due("no RUNNERS", r.start(0L), false);
        Checks.due("none was started", r.count(5), NONE);
        r.weather(1, 2);
        r.runner(0, 1);
        r.weather(1, 1);
        Checks.due("it CAN not lie there now", r.start(0L), false);
        Checks.due("none was started still", r.count(5), NONE);
        r.weather(1, 3);
        Checks.due("now it CAN", r.start(0L), true);
        Checks.due("TICKS", r.count(5), 0);
        // PACE of a STONE is 1, so it stays for three TICKS; the fourth takes it on.
        r.tick(3);
        looks("before it starts anew", r, 0, 0, 1, 3, NONE, 1, 0, 0);
        r.weather(1, 0);
        String before = Checks.state(r);
        Checks.due("it CAN not lie there again", r.start(9L), false);
        Checks.unchanged("start() that is refused", r, before);
        r.weather(1, 2);
        r.tick(2);
        Checks.due("anew", r.start(0L), true);
        looks("anew", r, 0, 0, 1, 0, NONE, 1, 0, 0);
        Checks.due("anew: TICKS", r.count(5), 0);
    }

    /** Promise 14. */
    private static void tickBounds() {
        StickRace r = Checks.onBrook("444o;444o", "l1");
        r.runner(0, 1);
        Checks.due("none was started", r.tick(1), NONE);
        run(r, 0);
        Checks.due("0", r.tick(0), NONE);
        Checks.due("-1", r.tick(-1), NONE);
        Checks.due("61", r.tick(61), NONE);
        Checks.due("no TICK was", r.count(5), 0);
        Checks.due("one", r.tick(1), 1);
        // LANE 1 has no side above it, so it strikes till the 60 TICKS were.
        Checks.due("as long as it goes on", r.tick(60), 59);
        Checks.due("TICKS", r.count(5), 60);
        Checks.due("it is over", r.tick(1), 0);
        Checks.due("out of bounds still", r.tick(0), NONE);
        looks("never OUT", r, 0, 2, 1, 0, NONE, 1, 0, 58);

        StickRace out = Checks.onBrook("4444;4444", "l1");
        out.runner(0, 0);
        run(out, 0);
        Checks.due("till all are OUT", out.tick(60), 4);
        Checks.due("all are OUT", out.tick(60), 0);
    }

    private static void rest() {
        StickRace r = Checks.onBrook("3333;9999", "l1");
        r.runner(0, 0);
        r.runner(0, 1);
        run(r, 1);
        looks("TICK 1, PACE 3", r, 0, 0, 0, 3, NONE, 2);
        looks("TICK 1, PACE 9", r, 1, 2, 1, 1, NONE, 2);
        r.tick(1);
        looks("TICK 2, PACE 3", r, 0, 1, 0, 2, NONE, 2);
        looks("TICK 2, PACE 9: 10, two CELLS on", r, 1, 4, 1, 2, 2, 0);
        r.tick(60);
        looks("PACE 3: OUT in TICK 6", r, 0, 4, 0, 2, 6, 1);
        r.weather(1, 3);
        run(r, 2);
        looks("PULL 12: OUT by the first of three steps", r, 1, 4, 1, 8, 2, 0);
    }

    /** Promise 16, and what PULL is. */
    private static void pull() {
        StickRace r = Checks.onBrook("1444;9444;3444;4444;o@44;@444", "l1", "l2", "l3", "l4,h6", "h7", "h8", "h9", "l5,h9");
        int[][] due = {
            // STICK, y, PULL with HIGH 0, with HIGH 3
            {0, 0, 1, 4}, {0, 1, 9, 12}, {1, 0, 9, 12}, {1, 2, 4, 7}, {2, 0, 4, 7}, {2, 1, 5, 8}, {3, 0, 4, 7},
            {2, 0, 4, 7}, {4, 1, 8, 11}, {5, 1, 8, 11}, {6, 1, 7, 10}, {6, 0, 0, 2}, {0, 5, 1, 4}, {4, 5, 0, 3},
        };
        for (int[] d : due) {
            r.on(0);
            Checks.due("RUNNER", r.runner(d[0], d[1]), 0);
            Checks.due("PULL of STICK " + d[0] + " at " + d[1], r.pull(0), d[2]);
            r.weather(1, 3);
            Checks.due("PULL of STICK " + d[0] + " at " + d[1] + ", HIGH 3", r.pull(0), d[3]);
            r.weather(1, 0);
        }
        r.on(0);
        r.weather(1, 2);
        // 3 and 11 and 5 and 6 and 1 (the STONE, whatever HIGH is): 26 by 5, less 2.
        r.runner(7, 0);
        Checks.due("PULL over a STONE", r.pull(0), 3);
        StickRace cut = Checks.onBrook("2444;3444;3444", "l3");
        cut.runner(0, 0);
        Checks.due("8 by 3, cut", cut.pull(0), 2);
        Checks.due("no RUNNER 1", r.pull(1), NONE);
        Checks.due("no RUNNER -1", r.pull(-1), NONE);
        StickRace out = Checks.onBrook("4444;4444", "l1");
        out.runner(0, 0);
        run(out, 3);
        Checks.due("as it lies", out.pull(0), 4);
        out.tick(1);
        Checks.due("OUT", out.pull(0), NONE);
    }

    private static void waves() {
        // RUNNER 1 goes two on, then WIND takes it to LANE 0, ahead of RUNNER 0.
        StickRace r = Checks.onBrook("33333333;88888888", "l1", "f9");
        r.weather(0, -1);
        r.runner(0, 0);
        r.runner(1, 1);
        run(r, 1);
        looks("RUNNER 1 was blown aside", r, 1, 2, 0, 0);
        looks("no WAVE yet", r, 0, 0, 0, 3);
        r.tick(1);
        looks("two further on: a WAVE", r, 0, 1, 0, 3);

        StickRace near = Checks.onBrook("1111;4444", "l1", "f9");
        near.weather(0, -1);
        near.runner(0, 0);
        near.runner(1, 1);
        run(near, 2);
        looks("RUNNER 1 is one further on", near, 1, 1, 0, 1);
        looks("one further on: a WAVE", near, 0, 0, 0, 3);
        StickRace turned = Checks.onBrook("1111;4444", "l1", "f9");
        turned.weather(0, -1);
        turned.runner(1, 1);
        turned.runner(0, 0);
        run(turned, 1);
        looks("a WAVE of RUNNER 0", turned, 1, 0, 0, 2);
        near.on(0);
        near.runner(0, 0);
        run(near, 1);
        looks("no WAVE of RUNNERS that are gone", near, 0, 0, 0, 1);

        StickRace far = Checks.onBrook("11411111;88888888", "l1", "f9");
        far.weather(0, -1);
        far.runner(0, 0);
        far.runner(1, 1);
        run(far, 2);
        looks("RUNNER 1 goes first", far, 1, 3, 0, 0);
        looks("three further on: no WAVE", far, 0, 0, 0, 2);

        StickRace side = Checks.onBrook("1111;8888", "l1");
        side.runner(0, 0);
        side.runner(0, 1);
        run(side, 2);
        looks("on another LANE: no WAVE", side, 0, 0, 0, 2);

        StickRace out = Checks.onBrook("4481;8888", "l1", "f9");
        out.weather(0, -1);
        out.runner(0, 0);
        out.runner(1, 1);
        run(out, 3);
        looks("RUNNER 1 is OUT on LANE 0", out, 1, 4, 0, 0, 2, 0);
        looks("one that is OUT makes no WAVE", out, 0, 4, 0, 0, 3, 1);

        StickRace one = Checks.onBrook("2111;4444", "l1", "f9");
        one.weather(0, -1);
        one.runner(0, 0);
        one.runner(1, 1);
        run(one, 1);
        looks("RUNNER 1 is one further on", one, 1, 1, 0, 0);
        one.weather(0, 0);
        one.tick(1);
        looks("a WAVE, then it strikes", one, 0, 0, 1, 0, NONE, 2, 0, 1);
    }

    private static void order() {
        // RUNNER 1 comes to LANE 0 one CELL ahead; it goes first, so its CELL is free for RUNNER 0.
        StickRace r = Checks.onBrook("2444444;4444444", "l1", "f9");
        r.weather(0, -1);
        r.runner(0, 0);
        r.runner(1, 1);
        run(r, 1);
        looks("one ahead", r, 1, 1, 0, 0);
        r.tick(1);
        looks("the one ahead goes first", r, 1, 2, 0, 0, NONE, 2, 0, 0);
        looks("then the other: 2 and 2 and a WAVE", r, 0, 1, 0, 1, NONE, 2, 0, 0);

        // Of one x the lowest number first: it is at LANE 1 when RUNNER 1 would be blown there.
        StickRace level = Checks.onBrook("4444;4444;4444", "f9");
        level.weather(0, 1);
        level.runner(0, 0);
        level.runner(0, 1);
        run(level, 1);
        looks("RUNNER 0 first: LANE 1 is free at x 1", level, 0, 1, 1, 0);
        looks("RUNNER 1 goes on: LANE 1 is taken there", level, 1, 0, 2, 0, NONE, 2, 0, 1);
    }

    private static void strikes(String brook, String stick, int y, int dueY) {
        StickRace r = Checks.onBrook(brook, stick);
        Checks.due("RUNNER", r.runner(0, y), 0);
        run(r, 1);
        looks(stick + " at " + y + " on " + brook, r, 0, 0, dueY, 0, NONE, 1, 0, 1);
    }

    private static void sidesOfStrikes() {
        String free = "9999;9999;";
        strikes("9o99;9999", "l1", 0, 1);
        strikes("9999;9o99", "l1", 1, 1);
        strikes("9999;9o99;o999", "l1", 1, 1);
        strikes(free + "9o99;9999;9999;9999", "l2", 2, 3);
        strikes(free + "9999;9o99;9999;9999", "l2", 2, 1);
        strikes(free + "9o99;9o99;9999;9999", "l2", 2, 3);
        strikes(free + "9o99;9999;9999;9999", "l3", 2, 3);
        strikes(free + "9999;9o99;9999;9999", "l3", 2, 3);
        strikes(free + "9999;9999;9o99;9999", "l3", 2, 1);
        strikes(free + "9999;9o99;9o99;9999", "l3", 2, 3);
        strikes("9999;9999;9o99;9999;9999;9999", "l4", 1, 2);
        strikes("9999;9999;9999;9o99;9999;9999", "l4", 1, 0);
        strikes("9999;9999;9999;9o99;9999;9999", "l5", 1, 1);
        strikes("9999;9999;9999;9o99;9999;9999", "l5", 0, 0);
        strikes("9999;9999;9o99;9999;9999;9999", "l5", 0, 1);
        strikes("o999;9999;9o99;9999;9999;9999", "l2", 1, 1);
    }

    private static void strikesAtRunners() {
        // RUNNER 1 bars LANE 1 at x 0: RUNNER 0, which strikes first, stays.
        StickRace r = Checks.onBrook("9o99;1111;9999", "l1");
        r.runner(0, 0);
        r.runner(0, 1);
        run(r, 1);
        looks("aside is taken", r, 0, 0, 0, 0, NONE, 2, 0, 1);
        // A STRIKE ends the TICK: REST is 0, and WIND does nothing then.
        StickRace w = Checks.onBrook("9o99;9999;9999", "f9");
        w.weather(0, 1);
        w.runner(0, 0);
        run(w, 1);
        looks("no WIND behind a STRIKE", w, 0, 0, 1, 0, NONE, 1, 0, 1);
        // A STRIKE in the second step of a TICK: where it then is.
        StickRace s = Checks.onBrook("99o9;9999", "l1");
        s.runner(0, 0);
        run(s, 1);
        looks("a STRIKE at x 1", s, 0, 1, 1, 0, NONE, 1, 0, 1);
        // Of two LANES the lower one has a RUNNER ahead, then the upper one.
        int[][] sides = {{1, 1, 3}, {4, -1, 1}};
        for (int[] side : sides) {
            StickRace b = Checks.onBrook("4444;4444;2111;2111;4444;4444", "l2", "f9");
            b.weather(0, side[1]);
            b.runner(0, 2);
            b.runner(1, side[0]);
            run(b, 1);
            looks("blown ahead of the other", b, 1, 1, side[0] + side[1], 0);
            b.weather(0, 0);
            b.tick(1);
            looks("away from the RUNNER", b, 0, 0, side[2], 0, NONE, 2, 0, 1);
            Checks.due("the one that was struck stays", b.lies(1, side[0] + side[1]), 1);
        }
    }

    private static void blown(String stick, int wind, int y, int dueY) {
        StickRace r = Checks.onBrook("1111;1111;1111", stick);
        r.weather(0, wind);
        r.runner(0, y);
        run(r, 1);
        looks(stick + " with WIND " + wind, r, 0, 0, dueY, 1);
    }

    private static void wind() {
        blown("f9", 0, 1, 1);
        blown("f9", 1, 1, 2);
        blown("f9", -1, 1, 0);
        blown("f8", 1, 1, 1);
        blown("f8", -1, 1, 1);
        blown("f3", 3, 1, 2);
        blown("f3", -3, 1, 0);
        blown("f4", 2, 1, 1);
        blown("f5", -2, 1, 0);
        blown("f2", 3, 1, 1);
        blown("f0", 3, 1, 1);
        blown("f9", 1, 2, 2);
        blown("f9", -1, 0, 0);
        blown("f9,l2", 1, 1, 1);
        blown("f9,l2", 1, 0, 1);
        StickRace stone = Checks.onBrook("4444;4o44", "f9");
        stone.weather(0, 1);
        stone.runner(0, 0);
        run(stone, 1);
        looks("a STONE is there", stone, 0, 1, 0, 0);
        StickRace out = Checks.onBrook("9999;o999", "f9");
        out.weather(0, 1);
        out.runner(0, 0);
        run(out, 1);
        looks("two on, then aside", out, 0, 2, 1, 1);
        out.weather(0, -1);
        out.tick(1);
        looks("no WIND for one that is OUT", out, 0, 4, 1, 2, 2, 0);
    }

    private static void eddies() {
        StickRace r = Checks.onBrook("4@44;4444", "f9", "l2");
        r.runner(0, 0);
        r.weather(2, 10);
        run(r, 1);
        looks("on the EDDY", r, 0, 1, 0, 0);
        r.weather(0, 1);
        r.tick(2);
        looks("held twice, and no WIND then", r, 0, 1, 0, 0, NONE, 1, 2, 0);
        r.weather(0, 0);
        r.weather(2, 0);
        r.tick(3);
        looks("PACE 1 of an EDDY", r, 0, 1, 0, 3, NONE, 1, 2, 0);
        r.weather(2, 10);
        r.tick(1);
        looks("held: REST is 0", r, 0, 1, 0, 0, NONE, 1, 3, 0);
        r.on(0);
        r.runner(1, 0);
        run(r, 3);
        looks("held by one of two LANES", r, 0, 1, 0, 0, NONE, 1, 2, 0);
    }

    /** The draw of 10 that a seed gives as its k-th, by numbers of any size. */
    private static int draw(long seed, int k) {
        BigInteger all = BigInteger.ONE.shiftLeft(64);
        BigInteger x = BigInteger.valueOf(seed).mod(all);
        for (int i = 0; i < k; i++) {
            x = x.multiply(new BigInteger("6364136223846793005")).add(new BigInteger("1442695040888963407")).mod(all);
        }
        return x.shiftRight(33).mod(BigInteger.TEN).intValue();
    }

    private static void draws() {
        long[] seeds = {0, 1, 2, 3, 4, 5, 6, 7, -1, 12345678901L, Long.MIN_VALUE, Long.MAX_VALUE};
        for (long seed : seeds) {
            StickRace r = Checks.onBrook("@444;@444", "l1");
            r.runner(0, 0);
            r.runner(0, 1);
            for (int hold = 0; hold <= 10; hold++) {
                r.weather(2, hold);
                r.start(seed);
                r.tick(2);
                // One draw for each RUNNER in each TICK, the lowest number first: draws 1, 2, then 3, 4.
                for (int i = 0; i < 2; i++) {
                    int held = (draw(seed, 1 + i) < hold ? 1 : 0) + (draw(seed, 3 + i) < hold ? 1 : 0);
                    Checks.due("held of seed " + seed + " with HOLD " + hold, r.look(i, 5), held);
                }
            }
        }
    }

    private static void highWater() {
        StickRace r = Checks.onBrook("4o44;4444", "l1");
        r.weather(1, 2);
        r.runner(0, 0);
        run(r, 1);
        looks("on the STONE", r, 0, 1, 0, 2);
        Checks.due("it lies there", r.lies(1, 0), 0);
        Checks.due("PULL of a STONE", r.pull(0), 1);
        r.weather(1, 0);
        r.tick(2);
        looks("on from the STONE when the water is low again", r, 0, 2, 0, 0, NONE, 1, 0, 0);
    }

    private static void places() {
        StickRace r = Checks.onBrook("2222;4444;4444;o444", "l1");
        r.runner(0, 0);
        r.runner(0, 2);
        r.runner(0, 1);
        run(r, 3);
        for (int i = 0; i < 3; i++) {
            Checks.due("not OUT: how many there are", r.look(i, 4), 3);
        }
        r.tick(1);
        Checks.due("of one TICK and one x the lowest number", r.look(1, 4), 0);
        Checks.due("then the next", r.look(2, 4), 1);
        Checks.due("not OUT yet", r.look(0, 4), 3);
        r.tick(60);
        Checks.due("the last", r.look(0, 4), 2);
        // Of one TICK the one that is further on goes OUT first.
        StickRace far = Checks.onBrook("5559;6669", "l1");
        far.runner(0, 0);
        far.runner(0, 1);
        run(far, 3);
        looks("at x 3", far, 0, 3, 0, 3);
        looks("OUT in TICK 3", far, 1, 4, 1, 5, 3, 0);
        StickRace ahead = Checks.onBrook("44994;88888", "l1");
        ahead.runner(0, 0);
        ahead.runner(0, 1);
        run(ahead, 2);
        looks("behind", ahead, 0, 2, 0, 0);
        looks("ahead", ahead, 1, 4, 1, 0);
        ahead.tick(2);
        Checks.due("the one ahead is first", ahead.look(1, 4), 0);
        Checks.due("the other one is second", ahead.look(0, 4), 1);
    }

    /** Promise 15. */
    private static void look() {
        StickRace r = Checks.onBrook("4444;4444", "l1");
        Checks.due("no RUNNERS", r.look(0, 0), HIDDEN);
        r.runner(0, 1);
        looks("as told", r, 0, 0, 1, 0, NONE, 1, 0, 0);
        Checks.due("RUNNER 1", r.look(1, 0), HIDDEN);
        Checks.due("RUNNER -1", r.look(-1, 0), HIDDEN);
        Checks.due("what 7", r.look(0, 7), HIDDEN);
        Checks.due("what -1", r.look(0, -1), HIDDEN);
        run(r, 4);
        looks("OUT", r, 0, 4, 1, 0, 4, 0, 0, 0);
        run(r, 0);
        looks("started anew", r, 0, 0, 1, 0, NONE, 1, 0, 0);
    }

    /** Promise 17. */
    private static void lies() {
        StickRace r = Checks.onBrook("4444;4444;4444;4444", "l1", "l2");
        r.runner(1, 1);
        r.runner(0, 3);
        int[] due = {NONE, 0, 0, 1};
        for (int y = 0; y < 4; y++) {
            Checks.due("before the START, LANE " + y, r.lies(0, y), due[y]);
        }
        run(r, 3);
        for (int y = 0; y < 4; y++) {
            Checks.due("at x 3, LANE " + y, r.lies(3, y), due[y]);
            Checks.due("no more at x 0, LANE " + y, r.lies(0, y), NONE);
        }
        Checks.due("x -1", r.lies(-1, 0), NONE);
        Checks.due("y -1", r.lies(0, -1), NONE);
        Checks.due("y 4", r.lies(0, 4), NONE);
        r.tick(1);
        Checks.due("OUT: x 4 is no CELL", r.lies(4, 1), NONE);
        Checks.due("OUT: none at x 3", r.lies(3, 1), NONE);
    }
}
