import java.lang.reflect.InvocationTargetException;
import java.lang.reflect.Method;
import java.util.Arrays;
import java.util.HashMap;
import java.util.Map;
import java.util.NoSuchElementException;

/**
 * "What is refused answers as told and changes nothing." Each call that can be refused is refused in
 * several states of an object, for each of its arguments just outside and far outside its bounds; then
 * the object must tell the same, and go on in the same way, as one made alike that was not asked.
 */
final class Refusals {
    private static final int NONE = Checks.NONE;
    private static final int HIDDEN = Checks.HIDDEN;
    private static final long MIN = Integer.MIN_VALUE;
    private static final long MAX = Integer.MAX_VALUE;
    private static final int PROBES = 8;
    private static final Map<String, Method> METHODS = new HashMap<>();
    private static final Map<String, String> UNTOUCHED = new HashMap<>();

    private Refusals() {
    }

    static void all() {
        for (Method m : StickRace.class.getMethods()) {
            METHODS.put(m.getName(), m);
        }
        Edge.of("Refused", "What is refused answers as told and changes nothing.");
        outOfBounds();
        ofANewObject();
        beforeAStart();
        inARace();
        whenAllIsFull();
        whenWaterIsLow();
        withoutRunners();
        questions();
    }

    // ---- the states ----

    private static StickRace made(String state) {
        switch (state) {
            case "new":
                return new StickRace();
            case "told":
                return told();
            case "full":
                return full();
            case "over":
                return over();
            case "low":
                return low();
            default:
                return empty();
        }
    }

    /** RUNNERS were told, none was started; the TAPE holds a BROOK. */
    private static StickRace told() {
        StickRace r = Checks.onBrook("44@4;o444;3333", "l1", "l2", "f9,h7");
        Checks.brook(r, "4444;4444");
        r.weather(0, 1);
        r.weather(1, 1);
        r.weather(2, 7);
        r.runner(2, 0);
        r.runner(0, 2);
        r.sight(0, 0, 4);
        r.sight(1, 1, 5);
        Checks.tape(r, "5555;5555");
        return r;
    }

    /** As many BROOKS, STICKS, RUNNERS, SIGHTS, bytes and TRIALS as there can be; an IMAGE; a RACE that goes on. */
    private static StickRace full() {
        StickRace r = new StickRace();
        String[] brooks = {"4444;4444", "44o4;4444", "4@44;3333", "1111;2222", "4444;4@44",
            "44@44;4o444;33333;4444@;22@22;44444"};
        for (String b : brooks) {
            Checks.brook(r, b);
        }
        String[] sticks = {"l1", "f9", "l2", "l2,h7", "l2,h9", "l2,f9", "l2,f3", "l2,h0", "l2,h8", "l2,h1"};
        for (String s : sticks) {
            Checks.stick(r, s);
        }
        for (int i = 0; i < 10; i++) {
            r.sight(i % 2, 0, 4);
        }
        r.on(5);
        for (int y = 0; y < 6; y++) {
            r.runner(y % 2, y);
        }
        r.weather(0, -1);
        r.start(Long.MIN_VALUE);
        r.tick(2);
        r.image();
        r.tick(2);
        Checks.tape(r, "4444;4444;4444;l1;" + "o@".repeat(71));
        return r;
    }

    /** All are OUT; the IMAGE is of another BROOK; the TAPE holds a STICK. */
    private static StickRace over() {
        StickRace r = Checks.onBrook("4@44;4444;33o3", "l1", "h7", "l3");
        Checks.brook(r, "44@44;22222");
        r.runner(0, 0);
        r.runner(1, 1);
        r.runner(0, 2);
        r.start(5L);
        r.tick(3);
        r.image();
        r.on(1);
        r.runner(0, 0);
        r.runner(0, 1);
        r.start(Long.MAX_VALUE);
        r.tick(60);
        Checks.tape(r, "l4,h3");
        return r;
    }

    /** RUNNERS upon STONES in a RACE that was started at high water, which is low now. */
    private static StickRace low() {
        StickRace r = Checks.onBrook("4444;o444;o@44;4444", "l1", "l2");
        r.weather(1, 2);
        r.runner(0, 0);
        r.runner(1, 1);
        r.start(9L);
        r.tick(1);
        r.weather(1, 1);
        return r;
    }

    /** A BROOK without RUNNERS behind a RACE that had an IMAGE. */
    private static StickRace empty() {
        StickRace r = over();
        r.on(0);
        return r;
    }

    // ---- what an object tells ----

    private static String probe(int which, StickRace r) {
        StringBuilder all = new StringBuilder();
        switch (which) {
            case 0:
                tellTexts(r, all);
                break;
            case 1:
                tellRace(r, all);
                break;
            case 2:
                tellTape(r, all);
                break;
            case 3:
                add(all, r.tick(3), r.tick(60));
                tellRace(r, all);
                break;
            case 4:
                add(all, r.back(), r.count(5));
                tellRace(r, all);
                add(all, r.tick(60));
                tellRunners(r, all);
                break;
            case 5:
                add(all, r.start(3L) ? 1 : 0, r.tick(60));
                tellRace(r, all);
                break;
            case 6:
                tellCounted(r, all);
                break;
            default:
                tellTakenThen(r, all);
                break;
        }
        return all.toString();
    }

    private static void add(StringBuilder all, long... answers) {
        for (long a : answers) {
            all.append(a).append(' ');
        }
    }

    private static void tellTexts(StickRace r, StringBuilder all) {
        for (int what = 0; what <= 8; what++) {
            add(all, r.count(what));
        }
        for (int b = 0; b < r.count(0); b++) {
            for (int y = 0; y < r.brook(b, 0); y++) {
                for (int x = 0; x < r.brook(b, 1); x++) {
                    add(all, r.pace(b, x, y), r.can(b, 0, x, y));
                }
            }
        }
        for (int s = 0; s < r.count(1); s++) {
            add(all, r.stick(s, 0), r.stick(s, 1), r.stick(s, 2));
        }
        add(all, r.agree(), r.stoned(0, NONE));
    }

    private static void tellRunners(StickRace r, StringBuilder all) {
        add(all, r.count(2), r.count(5));
        for (int i = 0; i < r.count(2); i++) {
            for (int what = 0; what <= 6; what++) {
                add(all, r.look(i, what));
            }
            add(all, r.pull(i));
        }
        for (int x = 0; x < 5; x++) {
            for (int y = 0; y < 6; y++) {
                add(all, r.lies(x, y));
            }
        }
    }

    private static void tellRace(StickRace r, StringBuilder all) {
        tellRunners(r, all);
        for (int t = 0; t <= 20; t += 1 + t / 4) {
            add(all, r.leader(t));
            for (int i = 0; i < 6; i++) {
                add(all, r.was(i, t, 0), r.was(i, t, 1));
            }
        }
        for (int i = 0; i < 6; i++) {
            add(all, r.led(i), r.passed(i, 1), r.passed(i, 4), r.struck(i));
        }
        add(all, r.led(NONE), r.struck(NONE));
    }

    private static void tellTape(StickRace r, StringBuilder all) {
        for (int n = r.count(4); n >= 0; n -= 1 + n / 20) {
            add(all, r.end(n) ? 1 : 0, r.fault(0), r.fault(1));
        }
    }

    private static void tellCounted(StickRace r, StringBuilder all) {
        for (int i = 0; i < r.count(2); i++) {
            add(all, r.odds(i, 3, 0), r.odds(i, 3, 1), r.luck(i, 3, 4, 2), r.rounds(i, 3, 0), r.rounds(i, 3, 2));
        }
        add(all, r.same(0, 1, 3), r.same(2, 3, 3), r.close(3));
        for (int b = 0; b < r.count(0); b++) {
            add(all, r.alone(b, 0, 0, 4L), r.best(b, 3, 3, 2), r.choice(b, 0, 1, 3, 2), r.carved(b, 0, 12, 1));
            add(all, r.fair(b, 0, 2, 1), r.duel(b, 0, 1, 2), r.ladder(b, 3, 2, 0), r.reach(b, 0, 0, 5, 2), r.stoned(b, 0));
        }
        add(all, r.trials(3, 3, NONE), r.plan(3, 3, 1), r.fewest(3, 3));
    }

    /** What is taken then: the TAPE as it is, RUNNERS, SIGHTS, a BROOK, a STICK. */
    private static void tellTakenThen(StickRace r, StringBuilder all) {
        add(all, r.text(0), r.text(1), r.count(4));
        for (int y = 0; y < 6; y++) {
            add(all, r.runner(1, y), r.runner(0, y));
        }
        add(all, r.sight(0, 0, 4), r.agree(), r.image(), Checks.brook(r, "4444;o@44"), Checks.stick(r, "l2,f1"));
        tellTexts(r, all);
        add(all, r.start(8L) ? 1 : 0, r.tick(60));
        tellRunners(r, all);
    }

    // ---- asking ----

    private static long refusal(String call) {
        switch (call) {
            case "look":
            case "choice":
            case "duel":
            case "count":
                return HIDDEN;
            case "end":
            case "weather":
            case "on":
            case "start":
                return 0;
            case "fault":
                return -2;
            default:
                return NONE;
        }
    }

    /** The answer, a boolean as 1 or 0; of brook() its refusal is NONE here, for its exception. */
    private static long ask(StickRace r, String call, long... args) {
        Method m = METHODS.get(call);
        Object[] a = new Object[args.length];
        for (int i = 0; i < a.length; i++) {
            if (m.getParameterTypes()[i] == long.class) {
                a[i] = args[i];
            } else {
                a[i] = (int) args[i];
            }
        }
        try {
            Object answer = m.invoke(r, a);
            return answer instanceof Boolean ? ((Boolean) answer ? 1 : 0) : ((Integer) answer).longValue();
        } catch (InvocationTargetException e) {
            if (call.equals("brook") && e.getCause() instanceof NoSuchElementException) {
                return NONE;
            }
            throw new IllegalStateException(call + Arrays.toString(args), e);
        } catch (IllegalAccessException e) {
            throw new IllegalStateException(call, e);
        }
    }

    private static String untouched(String state, int which) {
        return UNTOUCHED.computeIfAbsent(state + which, key -> probe(which, made(state)));
    }

    /** It answers as told, and nothing is changed: all probes tell the same as of an object that was not asked. */
    private static void refused(String state, String call, long... args) {
        String name = state + ": " + call + Arrays.toString(args);
        for (int which = 0; which < PROBES; which++) {
            StickRace r = made(state);
            Checks.due(name, ask(r, call, args), refusal(call));
            String then = probe(which, r);
            Checks.due(name + ", told then by probe " + which + " (1: the same)", then.equals(untouched(state, which)), true);
        }
    }

    /** A question that is answered changes nothing either. */
    private static void answered(String state, String call, long... args) {
        String name = state + ": " + call + Arrays.toString(args);
        for (int which = 0; which < PROBES; which++) {
            StickRace r = made(state);
            Checks.due(name + " is answered (1: yes)", ask(r, call, args) != refusal(call), true);
            String then = probe(which, r);
            Checks.due(name + ", told then by probe " + which + " (1: the same)", then.equals(untouched(state, which)), true);
        }
    }

    /**
     * A call that is answered with these arguments is answered with the first and the last value of that
     * argument too, and refused just outside and far away.
     */
    private static void bounds(String call, int argument, long least, long most, long... args) {
        long[] a = args.clone();
        for (long v : new long[] {least, most}) {
            a[argument] = v;
            long answer = ask(made("full"), call, a);
            Checks.due("full: " + call + Arrays.toString(a) + " is answered (1: yes)", answer != refusal(call), true);
        }
        for (long v : new long[] {least - 1, most + 1, MIN, MAX}) {
            a[argument] = v;
            refused("full", call, a);
        }
    }

    // ---- what is refused ----

    private static void outOfBounds() {
        bounds("end", 0, 0, 160, 0);
        bounds("fault", 0, 0, 1, 0);
        bounds("brook", 0, 0, 5, 0, 0);
        bounds("brook", 1, 0, 3, 0, 0);
        bounds("pace", 0, 0, 5, 0, 0, 0);
        bounds("pace", 1, 0, 3, 0, 0, 0);
        bounds("pace", 2, 0, 5, 5, 0, 0);
        bounds("stick", 0, 0, 9, 0, 0);
        bounds("stick", 1, 0, 2, 0, 0);
        bounds("weather", 0, 0, 2, 0, 0);
        bounds("weather", 1, -3, 3, 0, 0);
        bounds("weather", 1, 0, 3, 1, 0);
        bounds("weather", 1, 0, 10, 2, 0);
        bounds("can", 0, 0, 5, 0, 0, 0, 0);
        bounds("can", 1, 0, 9, 0, 0, 0, 0);
        bounds("can", 2, 0, 4, 5, 0, 0, 0);
        bounds("can", 3, 0, 1, 0, 0, 0, 0);
        bounds("on", 0, 0, 5, 0);
        bounds("tick", 0, 1, 60, 1);
        bounds("look", 0, 0, 5, 0, 0);
        bounds("look", 1, 0, 6, 0, 0);
        bounds("odds", 0, 0, 5, 0, 1, 0);
        bounds("odds", 1, 1, 40, 0, 1, 0);
        bounds("odds", 2, 0, 1, 0, 1, 0);
        bounds("alone", 0, 0, 5, 0, 0, 0, 0);
        bounds("alone", 1, 0, 9, 0, 0, 0, 0);
        bounds("alone", 2, 0, 5, 5, 0, 0, 0);
        bounds("luck", 0, 0, 5, 0, 1, 1, 1);
        bounds("luck", 1, 1, 40, 0, 1, 1, 1);
        bounds("luck", 2, 1, 20, 0, 1, 1, 0);
        bounds("luck", 3, 0, 1, 0, 1, 1, 0);
        bounds("luck", 3, 0, 20, 0, 1, 20, 0);
        bounds("best", 0, 0, 5, 0, 1, 1, 0);
        bounds("best", 1, 1, 1023, 0, 1, 1, 0);
        bounds("best", 2, 1, 40, 0, 1, 1, 0);
        bounds("best", 3, 0, 2, 0, 1, 1, 0);
        bounds("choice", 0, 0, 5, 0, 0, 0, 1, 0);
        bounds("choice", 1, 0, 9, 5, 0, 0, 1, 0);
        bounds("choice", 2, 0, 9, 5, 0, 0, 1, 0);
        bounds("choice", 3, 1, 40, 0, 0, 0, 1, 0);
        bounds("choice", 4, 0, 2, 0, 0, 0, 1, 0);
        bounds("same", 0, 0, 3, 0, 0, 1);
        bounds("same", 1, 0, 3, 0, 0, 1);
        bounds("same", 2, 1, 40, 0, 0, 1);
        moreOutOfBounds();
    }

    private static void moreOutOfBounds() {
        bounds("carved", 0, 0, 5, 0, 0, 30, 0);
        bounds("carved", 1, 0, 5, 5, 0, 30, 0);
        bounds("carved", 2, 2, 30, 0, 0, 30, 0);
        bounds("carved", 3, 0, 3, 0, 0, 30, 0);
        bounds("trials", 0, 1, 63, 1, 1, NONE);
        bounds("trials", 1, 1, 1023, 1, 1, NONE);
        bounds("trials", 2, NONE, 11, 31, 1023, 0);
        bounds("plan", 0, 1, 63, 1, 1, 0);
        bounds("plan", 1, 1, 1023, 1, 1, 0);
        bounds("plan", 2, 0, 1, 1, 1, 0);
        bounds("fewest", 0, 1, 63, 1, 1);
        bounds("fewest", 1, 1, 1023, 1, 1);
        bounds("stoned", 0, 0, 5, 0, NONE);
        bounds("fair", 0, 0, 5, 0, 0, 2, 0);
        bounds("fair", 1, 0, 9, 5, 0, 2, 0);
        bounds("fair", 2, 2, 6, 5, 0, 2, 0);
        bounds("fair", 3, 0, 1, 0, 0, 2, 0);
        bounds("was", 0, 0, 5, 0, 0, 0);
        bounds("was", 1, 0, 4, 0, 0, 0);
        bounds("was", 2, 0, 1, 0, 0, 0);
        bounds("leader", 0, 0, 4, 0);
        bounds("led", 0, NONE, 5, 0);
        bounds("struck", 0, NONE, 15, 0);
        bounds("rounds", 0, 0, 5, 0, 1, 0);
        bounds("rounds", 1, 1, 40, 0, 1, 0);
        bounds("rounds", 2, 0, 2, 0, 1, 0);
        bounds("duel", 0, 0, 5, 0, 0, 0, 1);
        bounds("duel", 1, 0, 9, 5, 0, 0, 1);
        bounds("duel", 2, 0, 9, 5, 0, 0, 1);
        bounds("duel", 3, 1, 40, 0, 0, 0, 1);
        bounds("ladder", 0, 0, 5, 0, 1, 1, NONE);
        bounds("ladder", 1, 1, 1023, 0, 1, 1, NONE);
        bounds("ladder", 2, 1, 40, 0, 1, 1, NONE);
        bounds("ladder", 3, NONE, 9, 0, 1023, 1, NONE);
        bounds("reach", 0, 0, 5, 0, 0, 0, 1, 0);
        bounds("reach", 1, 0, 9, 0, 0, 0, 1, 0);
        bounds("reach", 2, 0, 5, 5, 0, 0, 1, 0);
        bounds("reach", 3, 1, 40, 0, 0, 0, 1, 0);
        bounds("reach", 4, 0, 2, 0, 0, 0, 1, 0);
        bounds("close", 0, 1, 40, 1);
        bounds("count", 0, 0, 8, 0);
        for (long far : new long[] {-1, 6, MIN, MAX}) {
            refused("full", "pull", far);
            refused("full", "passed", far, 1);
            refused("full", "lies", far == 6 ? 5 : far, 0);
            refused("full", "lies", 0, far);
        }
        for (long far : new long[] {0, 17, -1, MIN, MAX}) {
            refused("full", "passed", 0, far);
        }
        refused("full", "lies", 0, 0);
    }

    private static void ofANewObject() {
        refused("new", "end", 1);
        refused("new", "end", -1);
        refused("new", "text", 0);
        refused("new", "text", 1);
        refused("new", "fault", 2);
        refused("new", "brook", 0, 0);
        refused("new", "pace", 0, 0, 0);
        refused("new", "stick", 0, 0);
        refused("new", "can", 0, 0, 0, 0);
        refused("new", "on", 0);
        refused("new", "runner", 0, 0);
        refused("new", "start", 0);
        refused("new", "tick", 1);
        refused("new", "look", 0, 0);
        refused("new", "pull", 0);
        refused("new", "lies", 0, 0);
        refused("new", "odds", 0, 1, 0);
        refused("new", "alone", 0, 0, 0, 0);
        refused("new", "luck", 0, 1, 1, 1);
        refused("new", "best", 0, 1, 1, 0);
        refused("new", "choice", 0, 0, 0, 1, 0);
        refused("new", "same", 0, 0, 1);
        refused("new", "carved", 0, 0, 30, 0);
        refused("new", "trials", 1, 1, NONE);
        refused("new", "plan", 1, 1, 0);
        refused("new", "fewest", 1, 1);
        refused("new", "sight", 0, 0, 4);
        refused("new", "stoned", 0, NONE);
        refused("new", "fair", 0, 0, 2, 0);
        refused("new", "image");
        refused("new", "back");
        refused("new", "rounds", 0, 1, 2);
        refused("new", "duel", 0, 0, 0, 1);
        refused("new", "ladder", 0, 1, 1, NONE);
        refused("new", "reach", 0, 0, 0, 1, 0);
        refused("new", "close", 1);
        askedOfNoRace("new");
    }

    private static void askedOfNoRace(String state) {
        refused(state, "tick", 1);
        refused(state, "tick", 0);
        refused(state, "image");
        refused(state, "was", 0, 0, 0);
        refused(state, "passed", 0, 1);
        refused(state, "leader", 0);
        refused(state, "led", 0);
        refused(state, "led", NONE);
        refused(state, "struck", 0);
        refused(state, "struck", NONE);
    }

    private static void beforeAStart() {
        refused("told", "end", 10);
        refused("told", "text", 1);
        refused("told", "text", 2);
        refused("told", "text", -1);
        refused("told", "back");
        askedOfNoRace("told");
        // Taken by another one, on a STONE, over a STONE, out of the BROOK, no such ones.
        long[][] runners = {{0, 0}, {0, 2}, {0, 1}, {1, 0}, {1, 2}, {0, 3}, {0, -1}, {3, 0}, {-1, 0}, {MIN, 0}, {MAX, 0},
            {0, MIN}, {0, MAX}};
        for (long[] r : runners) {
            refused("told", "runner", r);
        }
        long[][] sights = {{0, 0, 0}, {0, 0, 100}, {0, -1, 4}, {0, 6, 4}, {3, 0, 4}, {-1, 0, 4}, {0, 0, MIN}, {0, MAX, 4},
            {MIN, 0, 4}};
        for (long[] s : sights) {
            refused("told", "sight", s);
        }
        refused("told", "alone", 0, 0, 1, 0);
        refused("told", "alone", 0, 1, 0, 0);
        refused("told", "reach", 0, 0, 1, 1, 0);
        refused("told", "choice", 0, 1, 1, 1, 0);
        refused("told", "duel", 0, 1, 1, 1);
        refused("told", "best", 0, 2, 1, 0);
        refused("told", "best", 0, 8, 1, 0);
        refused("told", "carved", 0, 0, 1, 0);
        refused("told", "carved", 0, 1, 30, 0);
        refused("told", "trials", 4, 1, NONE);
        refused("told", "plan", 3, 2, 0);
        refused("told", "fewest", 1, 8);
        refused("told", "fair", 0, 0, 3, 0);
        refused("told", "fair", 1, 1, 2, 0);
        refused("told", "stoned", 2, NONE);
        refused("told", "stoned", 0, -2);
        refused("told", "stoned", 0, 50);
        refused("told", "ladder", 0, 7, 1, 2);
    }

    private static void inARace() {
        refused("over", "runner", 0, 0);
        refused("over", "runner", 2, 0);
        refused("over", "pull", 0);
        refused("over", "lies", 4, 0);
        refused("over", "lies", 5, 0);
        refused("over", "tick", 61);
        refused("over", "tick", 0);
        refused("over", "text", 0);
        refused("over", "on", 2);
        refused("over", "on", -1);
        refused("over", "was", 2, 0, 0);
        refused("over", "passed", 0, 6);
        refused("over", "look", 2, 0);
        refused("over", "leader", 60);
        refused("over", "struck", NONE);
    }

    private static void whenAllIsFull() {
        refused("full", "feed", 1, 0, 0, 0, 0);
        refused("full", "feed", 0, 0, 0, 0, MIN);
        refused("full", "feed", MAX, MAX, MAX, MAX, MAX);
        refused("full", "feed", -1, 0x34343434, 0, 0x34, 0);
        refused("full", "text", 0);
        refused("full", "text", 1);
        refused("full", "sight", 0, 0, 4);
        for (int y = 0; y < 6; y++) {
            refused("full", "runner", 0, y);
        }
        // Of BROOK 5 more than 12 TRIALS; no TRIALS of l2 on it and a BROOK of two LANES at 1.
        refused("full", "trials", 32, 1023, NONE);
        refused("full", "trials", 32, 1023, 0);
        refused("full", "plan", 32, 1023, 0);
        refused("full", "fewest", 32, 1023);
    }

    private static void whenWaterIsLow() {
        refused("low", "start", 0);
        refused("low", "start", Long.MAX_VALUE);
        refused("low", "odds", 0, 1, 0);
        refused("low", "odds", 1, 40, 1);
        refused("low", "luck", 0, 1, 1, 1);
        refused("low", "same", 0, 2, 1);
        refused("low", "same", 3, 1, 1);
        refused("low", "close", 1);
        refused("low", "runner", 0, 3);
        refused("low", "back");
        refused("low", "choice", 0, 1, 1, 1, 2);
        answered("low", "same", 2, 3, 5);
        answered("low", "rounds", 0, 3, 2);
    }

    private static void withoutRunners() {
        askedOfNoRace("empty");
        refused("empty", "start", 0);
        refused("empty", "look", 0, 0);
        refused("empty", "pull", 0);
        refused("empty", "lies", 0, 0);
        refused("empty", "odds", 0, 1, 0);
        refused("empty", "luck", 0, 1, 1, 0);
        refused("empty", "same", 0, 0, 1);
        refused("empty", "rounds", 0, 1, 2);
        refused("empty", "close", 1);
        refused("empty", "runner", 2, 1);
    }

    /** What only asks leaves all as it is, whatever it answers. */
    private static void questions() {
        for (String state : new String[] {"full", "over"}) {
            answered(state, "brook", 1, 1);
            answered(state, "pace", 1, 1, 1);
            answered(state, "stick", 1, 1);
            answered(state, "can", 1, 0, 2, 0);
            answered(state, "look", 1, 4);
            answered(state, "odds", 1, 7, 1);
            answered(state, "alone", 1, 0, 0, 3);
            answered(state, "luck", 1, 7, 9, 3);
            answered(state, "best", 1, 3, 7, 2);
            answered(state, "choice", 1, 0, 1, 7, 2);
            answered(state, "same", 0, 3, 7);
            answered(state, "carved", 1, 0, 12, 3);
            answered(state, "trials", 3, 3, NONE);
            answered(state, "plan", 3, 3, 1);
            answered(state, "fewest", 3, 3);
            answered(state, "agree");
            answered(state, "stoned", 1, NONE);
            answered(state, "fair", 1, 0, 2, 1);
            answered(state, "was", 1, 2, 1);
            answered(state, "leader", 2);
            answered(state, "led", NONE);
            answered(state, "struck", 1);
            answered(state, "rounds", 1, 7, 1);
            answered(state, "duel", 1, 0, 1, 7);
            answered(state, "ladder", 1, 3, 7, 0);
            answered(state, "reach", 1, 0, 0, 7, 2);
            answered(state, "close", 7);
            answered(state, "count", 4);
            answered(state, "end", state.equals("full") ? 160 : 5);
            answered(state, "feed", 0, 0, 0, 0, 0);
        }
        answered("full", "lies", 0, 1);
        answered("full", "pull", 0);
        answered("full", "passed", 5, 1);
        answered("full", "fault", 0);
    }
}
