import java.util.NoSuchElementException;
import java.util.Random;

/**
 * Long runs of calls, drawn from fixed seeds, on a StickRace and on the Model at once: every answer
 * must be the same. An argument may set the number of runs.
 */
public final class RandomRunsTest {
    private static final int CALLS = 512;
    private static final String[] NAMES = {
        "feed", "end", "fault", "text", "brook", "pace", "stick", "weather", "can", "on", "runner", "start", "tick",
        "look", "pull", "lies", "odds", "alone", "luck", "best", "choice", "same", "carved", "trials", "plan",
        "fewest", "sight", "agree", "stoned", "fair", "image", "back", "was", "passed", "leader", "led", "struck",
        "rounds", "duel", "ladder", "reach", "close", "count",
    };
    // How often a call is refused or answers a plain 0 is no matter: that each also answers otherwise is.
    private static final long[] TOLD = new long[NAMES.length];

    private final Random random;
    private final StickRace real = new StickRace();
    private final Model model = new Model();
    private final StringBuilder story = new StringBuilder();
    private String pending = "";

    private RandomRunsTest(int seed) {
        random = new Random(seed);
    }

    public static void main(String[] args) {
        int runs = args.length > 0 ? Integer.parseInt(args[0]) : 60;
        for (int seed = 0; seed < runs; seed++) {
            new RandomRunsTest(seed).run(seed);
        }
        for (int c = 0; c < NAMES.length; c++) {
            Checks.due(NAMES[c] + " was answered otherwise than refused (1: yes)", TOLD[c] > 0, true);
        }
        if (args.length > 1) {
            for (int c = 0; c < NAMES.length; c++) {
                System.out.println(NAMES[c] + " " + TOLD[c]);
            }
        }
        Checks.finish("RandomRunsTest");
    }

    private void run(int seed) {
        int calls = 0;
        while (calls < CALLS) {
            int call = nextCall();
            long[] a = arguments(call);
            long want = askModel(call, a);
            long got = askReal(call, a);
            story.append(NAMES[call]);
            for (long v : a) {
                story.append(' ').append(v);
            }
            story.append(" -> ").append(want).append('\n');
            if (got != want) {
                System.out.println(story.substring(Math.max(0, story.length() - 3000)));
            }
            Checks.due("run " + seed + ", call " + calls + ", " + NAMES[call], got, want);
            if (want > 0) {
                TOLD[call]++;
            }
            calls++;
        }
    }

    private int below(int n) {
        return random.nextInt(n);
    }

    /** Mostly within 0 .. n less 1, now and then just outside or far away. */
    private int about(int n) {
        int k = below(40);
        if (k == 0) {
            return -1;
        }
        if (k == 1) {
            return n;
        }
        if (k == 2 && below(4) == 0) {
            int[] far = {Integer.MIN_VALUE, Integer.MAX_VALUE, -2, n + 1, 31, 32, 64, -1000};
            return far[below(far.length)];
        }
        return n < 1 ? 0 : below(n);
    }

    private int nextCall() {
        if (!pending.isEmpty()) {
            return 0;
        }
        int tape = (int) model.count(4);
        if (tape > 0 && below(3) > 0) {
            return below(2) == 0 ? 2 : 3;
        }
        boolean fewTexts = model.count(0) < 2 || model.count(1) < 4;
        int k = below(100);
        if (k < (fewTexts ? 70 : 2)) {
            boolean brook = model.count(0) < 2 || below(3) == 0;
            pending = brook ? brookText() : stickText();
            return tape > 0 ? 1 : 0;
        }
        if (model.count(2) == 0 && k < 50) {
            return below(3) == 0 ? 9 : 10;
        }
        if (model.count(5) < 0 && k < 60) {
            return model.count(2) > 1 && below(6) == 0 ? 11 : 10;
        }
        if (k < 12) {
            int[] setting = {7, 7, 7, 9, 11, 26};
            return setting[below(setting.length)];
        }
        return k < 22 && model.count(5) >= 0 ? 12 : below(NAMES.length);
    }

    private String blanks() {
        return below(12) == 0 ? " ".repeat(1 + below(2)) : "";
    }

    private String brookText() {
        int lanes = below(10) == 0 ? 1 + below(7) : 2 + below(5);
        int cells = below(10) == 0 ? 3 + below(15) : 4 + below(9);
        int stones = below(4);
        int eddies = below(3);
        int slow = below(2) == 0 ? 9 : 4;
        StringBuilder t = new StringBuilder();
        for (int y = 0; y < lanes; y++) {
            t.append(y == 0 ? "" : ";").append(blanks());
            for (int x = 0; x < cells; x++) {
                boolean stone = below(20) < stones * (x == 0 ? 1 : 2);
                boolean eddy = below(15) < eddies;
                t.append(stone ? "o" : eddy ? "@" : "" + (1 + below(slow)));
                if (t.length() < 60) {
                    t.append(blanks());
                }
            }
        }
        return broken(t.toString());
    }

    private String stickText() {
        StringBuilder t = new StringBuilder();
        String letters = "lhf";
        int items = 1 + below(3);
        for (int i = 0; i < items; i++) {
            int c = below(letters.length());
            char letter = letters.charAt(c);
            int number = letter == 'l' ? 1 + below(below(3) == 0 ? 5 : 2) : below(10);
            letters = letters.substring(0, c) + letters.substring(c + 1);
            t.append(i == 0 ? "" : ",").append(blanks()).append(letter).append(blanks());
            t.append(below(10) == 0 ? "0" : "").append(number).append(blanks());
        }
        return broken(t.toString());
    }

    private String broken(String text) {
        if (below(4) > 0) {
            return text;
        }
        int at = below(text.length());
        String some = "0123456789o@;,lhf xz" + (char) 200;
        String c = "" + some.charAt(below(some.length()));
        switch (below(3)) {
            case 0:
                return text.substring(0, at) + text.substring(at + 1);
            case 1:
                return text.substring(0, at) + c + text.substring(at);
            default:
                return text.substring(0, at) + c + text.substring(at + 1);
        }
    }

    private long[] arguments(int call) {
        switch (NAMES[call]) {
            case "feed":
                return fed();
            case "end":
                return a(pending.isEmpty() && below(3) == 0 ? about(1 + (int) model.count(4)) : 0);
            case "fault":
            case "text":
                return a(about(2));
            case "brook":
                return a(brook(), about(4));
            case "pace":
                return a(brook(), about(12), about(4));
            case "stick":
                return a(stick(), about(3));
            case "weather":
                return weather();
            case "can":
                return a(brook(), stick(), about(12), about(4));
            case "on":
                return a(brook());
            case "runner":
                return a(stick(), about(6));
            case "start":
                return a(seed());
            case "tick":
                return a(below(10) == 0 ? about(62) : 1 + below(6));
            default:
                return moreArguments(call);
        }
    }

    private long[] fed() {
        String now = pending.isEmpty() ? "4444;l1,h2" : pending;
        String text = now.length() > 20 ? now.substring(0, 20) : now;
        pending = pending.length() > 20 ? pending.substring(20) : "";
        int[] five = Checks.numbers(text);
        return a(five[0], five[1], five[2], five[3], five[4]);
    }

    private long[] weather() {
        int what = about(3);
        return what == 0 ? a(0, about(7) - 3) : a(what, what == 1 ? (below(2) == 0 ? 0 : about(4)) : about(11));
    }

    private long[] moreArguments(int call) {
        switch (NAMES[call]) {
            case "look":
                return a(runner(), about(7));
            case "pull":
                return a(runner());
            case "lies":
                return a(about(12), about(4));
            case "odds":
                return a(runner(), seeds(), about(2));
            case "alone":
                return a(brook(), stick(), about(4), seed());
            case "luck":
                return luck();
            case "best":
                return a(brook(), stickBits(), seeds(), about(3));
            case "choice":
                return a(brook(), stick(), stick(), seeds(), about(3));
            case "same":
                return a(about(4), about(4), seeds());
            case "carved":
                return a(brook(), about(3), about(31), about(4));
            case "trials":
                return a(brookBits(), stickBits(), about(13) - 1);
            case "plan":
                return a(brookBits(), stickBits(), about(2));
            case "fewest":
                return a(brookBits(), stickBits());
            case "sight":
                return sight();
            case "stoned":
                return a(brook(), about(8) - 1);
            case "fair":
                return a(brook(), stick(), about(6) + 1, about(2));
            default:
                return lastArguments(call);
        }
    }

    private long[] luck() {
        int rounds = 1 + about(20);
        return a(runner(), seeds(), rounds, about(Math.max(1, Math.min(21, rounds + 1))));
    }

    /** Half of the SIGHTS tell what some BROOK answers, so that some AGREE. */
    private long[] sight() {
        int s = stick();
        int y = about(3);
        long alone = model.alone(brook(), s, y, 0);
        return a(s, y, below(4) > 0 && alone > 0 ? (int) alone : about(100));
    }

    private long[] lastArguments(int call) {
        switch (NAMES[call]) {
            case "was":
                return a(runner(), about((int) model.count(5) + 1), about(2));
            case "passed":
                return a(runner(), about(12) + 1);
            case "leader":
                return a(about((int) model.count(5) + 1));
            case "led":
                return a(below(3) == 0 ? -1 : runner());
            case "struck":
                return a(below(3) == 0 ? -1 : about(16));
            case "rounds":
                return a(runner(), seeds(), about(3));
            case "duel":
                return a(brook(), stick(), stick(), seeds());
            case "ladder":
                return a(brook(), stickBits(), seeds(), about(6) - 1);
            case "reach":
                return a(brook(), stick(), about(4), seeds(), about(3));
            case "close":
                return a(seeds());
            case "count":
                return a(about(9));
            default:
                return a();
        }
    }

    private static long[] a(long... values) {
        return values;
    }

    private int brook() {
        return about((int) model.count(0));
    }

    private int stick() {
        return about((int) model.count(1));
    }

    private int runner() {
        return about((int) model.count(2));
    }

    private int seeds() {
        return below(20) == 0 ? about(42) : below(8) == 0 ? 40 : 1 + below(6);
    }

    private long seed() {
        return below(3) == 0 ? random.nextLong() : below(10);
    }

    private int brookBits() {
        int all = 1 << (int) model.count(0);
        return below(3) == 0 ? all - 1 : about(all);
    }

    /** Few bits mostly, so that there are seldom too many TRIALS. */
    private int stickBits() {
        int all = 1 << (int) model.count(1);
        return below(2) == 0 ? about(all) & about(all) : about(all);
    }

    private long askReal(int call, long[] a) {
        StickRace r = real;
        int[] v = new int[7];
        for (int i = 0; i < a.length; i++) {
            v[i] = (int) a[i];
        }
        switch (NAMES[call]) {
            case "feed": return r.feed(v[0], v[1], v[2], v[3], v[4]);
            case "end": return r.end(v[0]) ? 1 : 0;
            case "fault": return r.fault(v[0]);
            case "text": return r.text(v[0]);
            case "brook":
                try {
                    return r.brook(v[0], v[1]);
                } catch (NoSuchElementException e) {
                    return Model.THROWN;
                }
            case "pace": return r.pace(v[0], v[1], v[2]);
            case "stick": return r.stick(v[0], v[1]);
            case "weather": return r.weather(v[0], v[1]) ? 1 : 0;
            case "can": return r.can(v[0], v[1], v[2], v[3]);
            case "on": return r.on(v[0]) ? 1 : 0;
            case "runner": return r.runner(v[0], v[1]);
            case "start": return r.start(a[0]) ? 1 : 0;
            case "tick": return r.tick(v[0]);
            case "look": return r.look(v[0], v[1]);
            case "pull": return r.pull(v[0]);
            case "lies": return r.lies(v[0], v[1]);
            case "odds": return r.odds(v[0], v[1], v[2]);
            case "alone": return r.alone(v[0], v[1], v[2], a[3]);
            case "luck": return r.luck(v[0], v[1], v[2], v[3]);
            case "best": return r.best(v[0], v[1], v[2], v[3]);
            case "choice": return r.choice(v[0], v[1], v[2], v[3], v[4]);
            case "same": return r.same(v[0], v[1], v[2]);
            case "carved": return r.carved(v[0], v[1], v[2], v[3]);
            case "trials": return r.trials(v[0], v[1], v[2]);
            case "plan": return r.plan(v[0], v[1], v[2]);
            case "fewest": return r.fewest(v[0], v[1]);
            case "sight": return r.sight(v[0], v[1], v[2]);
            case "agree": return r.agree();
            case "stoned": return r.stoned(v[0], v[1]);
            case "fair": return r.fair(v[0], v[1], v[2], v[3]);
            case "image": return r.image();
            case "back": return r.back();
            case "was": return r.was(v[0], v[1], v[2]);
            case "passed": return r.passed(v[0], v[1]);
            case "leader": return r.leader(v[0]);
            case "led": return r.led(v[0]);
            case "struck": return r.struck(v[0]);
            case "rounds": return r.rounds(v[0], v[1], v[2]);
            case "duel": return r.duel(v[0], v[1], v[2], v[3]);
            case "ladder": return r.ladder(v[0], v[1], v[2], v[3]);
            case "reach": return r.reach(v[0], v[1], v[2], v[3], v[4]);
            case "close": return r.close(v[0]);
            default: return r.count(v[0]);
        }
    }

    private long askModel(int call, long[] a) {
        Model r = model;
        int[] v = new int[7];
        for (int i = 0; i < a.length; i++) {
            v[i] = (int) a[i];
        }
        switch (NAMES[call]) {
            case "feed": return r.feed(v[0], v[1], v[2], v[3], v[4]);
            case "end": return r.end(v[0]);
            case "fault": return r.fault(v[0]);
            case "text": return r.text(v[0]);
            case "brook": return r.brook(v[0], v[1]);
            case "pace": return r.pace(v[0], v[1], v[2]);
            case "stick": return r.stick(v[0], v[1]);
            case "weather": return r.weather(v[0], v[1]);
            case "can": return r.can(v[0], v[1], v[2], v[3]);
            case "on": return r.on(v[0]);
            case "runner": return r.runner(v[0], v[1]);
            case "start": return r.start(a[0]);
            case "tick": return r.tick(v[0]);
            case "look": return r.look(v[0], v[1]);
            case "pull": return r.pull(v[0]);
            case "lies": return r.lies(v[0], v[1]);
            case "odds": return r.odds(v[0], v[1], v[2]);
            case "alone": return r.alone(v[0], v[1], v[2], a[3]);
            case "luck": return r.luck(v[0], v[1], v[2], v[3]);
            case "best": return r.best(v[0], v[1], v[2], v[3]);
            case "choice": return r.choice(v[0], v[1], v[2], v[3], v[4]);
            case "same": return r.same(v[0], v[1], v[2]);
            case "carved": return r.carved(v[0], v[1], v[2], v[3]);
            case "trials": return r.trials(v[0], v[1], v[2]);
            case "plan": return r.plan(v[0], v[1], v[2]);
            case "fewest": return r.fewest(v[0], v[1]);
            case "sight": return r.sight(v[0], v[1], v[2]);
            case "agree": return r.agree();
            case "stoned": return r.stoned(v[0], v[1]);
            case "fair": return r.fair(v[0], v[1], v[2], v[3]);
            case "image": return r.image();
            case "back": return r.back();
            case "was": return r.was(v[0], v[1], v[2]);
            case "passed": return r.passed(v[0], v[1]);
            case "leader": return r.leader(v[0]);
            case "led": return r.led(v[0]);
            case "struck": return r.struck(v[0]);
            case "rounds": return r.rounds(v[0], v[1], v[2]);
            case "duel": return r.duel(v[0], v[1], v[2], v[3]);
            case "ladder": return r.ladder(v[0], v[1], v[2], v[3]);
            case "reach": return r.reach(v[0], v[1], v[2], v[3], v[4]);
            case "close": return r.close(v[0]);
            default: return r.count(v[0]);
        }
    }
}
