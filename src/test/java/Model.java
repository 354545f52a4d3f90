import java.util.ArrayList;
import java.util.Collections;
import java.util.List;
import java.util.TreeMap;
import java.util.TreeSet;

/**
 * A second, slow StickRace, written from the document alone with texts, lists and maps, so that the
 * program's answers can be compared with those of another head. Answers are longs; a call that throws
 * NoSuchElementException answers THROWN.
 */
final class Model {
    static final long THROWN = Long.MIN_VALUE;
    static final int NONE = -1;
    static final int HIDDEN = -1000;

    /** A STICK is {LENGTH, HEAVY, FEATHER}; a BROOK is a list of LANES, each a text of signs. */
    private String tape = "";
    private final List<List<String>> brooks = new ArrayList<>();
    private final List<int[]> sticks = new ArrayList<>();
    private final List<int[]> sights = new ArrayList<>();
    private int wind = 0;
    private int high = 0;
    private int hold = 5;
    private Run race = new Run();
    private Run kept = null;

    /** One RUNNER. */
    static final class Man {
        int[] stick;
        int startY;
        int x;
        int y;
        int rest;
        int outTick = NONE;
        int place = NONE;
        int held;
        int struck;
    }

    /** A RACE with all that it remembers: of each TICK a list of {x, y} of its RUNNERS. */
    static final class Run {
        List<String> brook;
        List<Man> men = new ArrayList<>();
        boolean started;
        long state;
        int ticks;
        List<Integer> strikes = new ArrayList<>();
        List<List<int[]>> past = new ArrayList<>();

        Run copy() {
            Run r = new Run();
            r.brook = brook;
            for (Man m : men) {
                Man c = new Man();
                c.stick = m.stick;
                c.startY = m.startY;
                c.x = m.x;
                c.y = m.y;
                c.rest = m.rest;
                c.outTick = m.outTick;
                c.place = m.place;
                c.held = m.held;
                c.struck = m.struck;
                r.men.add(c);
            }
            r.started = started;
            r.state = state;
            r.ticks = ticks;
            r.strikes = new ArrayList<>(strikes);
            r.past = new ArrayList<>(past);
            return r;
        }

        int out() {
            int n = 0;
            for (Man m : men) {
                if (m.place != NONE) {
                    n++;
                }
            }
            return n;
        }

        boolean over() {
            return ticks == 60 || out() == men.size();
        }

        void remember() {
            List<int[]> row = new ArrayList<>();
            for (Man m : men) {
                row.add(new int[] {m.x, m.y});
            }
            past.add(row);
        }

        int place(int i) {
            return men.get(i).place == NONE ? men.size() : men.get(i).place;
        }
    }

    // ---- texts ----

    long feed(int... numbers) {
        StringBuilder more = new StringBuilder(tape);
        for (int number : numbers) {
            for (byte b : java.nio.ByteBuffer.allocate(4).putInt(number).array()) {
                if (b != 0) {
                    more.append((char) (b & 0xFF));
                }
            }
        }
        if (more.length() > 160) {
            return NONE;
        }
        tape = more.toString();
        return tape.length();
    }

    long end(int n) {
        if (n < 0 || n > tape.length()) {
            return 0;
        }
        tape = tape.substring(0, n);
        return 1;
    }

    /** Whether some BROOK's text begins so. */
    private static boolean brookMayBegin(String prefix) {
        String t = prefix.replace(" ", "");
        if (!t.matches("[1-9o@;]*")) {
            return false;
        }
        String[] lanes = t.split(";", -1);
        if (lanes.length > 6) {
            return false;
        }
        for (int i = 0; i < lanes.length; i++) {
            boolean ended = i < lanes.length - 1;
            int length = lanes[i].length();
            int most = i == 0 ? 16 : lanes[0].length();
            int least = i == 0 ? 4 : lanes[0].length();
            if (length > most || (ended && length < least)) {
                return false;
            }
        }
        return true;
    }

    private static boolean isBrook(String text) {
        String[] lanes = text.replace(" ", "").split(";", -1);
        return brookMayBegin(text) && brookMayBegin(text + ";" + lanes[0]) | lanes.length == 6
            && lanes.length >= 2 && lanes[lanes.length - 1].length() == lanes[0].length();
    }

    private int stickFault(int[] into) {
        String t = tape;
        into[0] = 1;
        into[1] = 5;
        into[2] = 0;
        String lhf = "lhf";
        TreeSet<Character> were = new TreeSet<>();
        String state = "letter";
        int which = 0;
        int digitsAt = 0;
        for (int i = 0; i <= t.length(); i++) {
            char c = i < t.length() ? t.charAt(i) : '$';
            if (state.equals("digits")) {
                if (Character.isDigit(c) && c < 128) {
                    if (i - digitsAt == 2) {
                        return i;
                    }
                    continue;
                }
                int v = Integer.parseInt(t.substring(digitsAt, i));
                if (which == 0 ? v < 1 || v > 5 : v > 9) {
                    return i - 1;
                }
                into[which] = v;
                state = "comma";
            }
            if (c == ' ') {
                continue;
            }
            if (state.equals("letter")) {
                which = lhf.indexOf(c);
                if (which < 0 || !were.add(c)) {
                    return i;
                }
                state = "number";
            } else if (state.equals("number")) {
                if (c < '0' || c > '9') {
                    return i;
                }
                digitsAt = i;
                state = "digits";
            } else if (i == t.length()) {
                return NONE;
            } else if (c == ',') {
                state = "letter";
            } else {
                return i;
            }
        }
        return t.length();
    }

    long fault(int sort) {
        if (sort == 1) {
            return stickFault(new int[3]);
        }
        if (sort != 0) {
            return -2;
        }
        for (int i = 0; i < tape.length(); i++) {
            if (!brookMayBegin(tape.substring(0, i + 1))) {
                return i;
            }
        }
        return isBrook(tape) ? NONE : tape.length();
    }

    long text(int sort) {
        if (fault(sort) != NONE) {
            return NONE;
        }
        if (sort == 0 ? brooks.size() == 6 : sticks.size() == 10) {
            return NONE;
        }
        if (sort == 0) {
            brooks.add(List.of(tape.replace(" ", "").split(";")));
        } else {
            int[] s = new int[3];
            stickFault(s);
            sticks.add(s);
        }
        tape = "";
        return (sort == 0 ? brooks.size() : sticks.size()) - 1;
    }

    long brook(int b, int what) {
        if (b < 0 || b >= brooks.size() || what < 0 || what > 3) {
            return THROWN;
        }
        List<String> k = brooks.get(b);
        String all = String.join("", k);
        switch (what) {
            case 0: return k.size();
            case 1: return k.get(0).length();
            case 2: return all.length() - all.replace("o", "").length();
            default: return all.length() - all.replace("@", "").length();
        }
    }

    private static boolean cell(List<String> k, int x, int y) {
        return k != null && y >= 0 && y < k.size() && x >= 0 && x < k.get(0).length();
    }

    private static int paceOf(List<String> k, int x, int y, int high) {
        char c = k.get(y).charAt(x);
        return c == 'o' ? 1 : c == '@' ? 1 + high : c - '0' + high;
    }

    long pace(int b, int x, int y) {
        return b < 0 || b >= brooks.size() || !cell(brooks.get(b), x, y) ? NONE : paceOf(brooks.get(b), x, y, high);
    }

    long stick(int s, int what) {
        return s < 0 || s >= sticks.size() || what < 0 || what > 2 ? NONE : sticks.get(s)[what];
    }

    long weather(int what, int v) {
        int[] least = {-3, 0, 0};
        int[] most = {3, 3, 10};
        if (what < 0 || what > 2 || v < least[what] || v > most[what]) {
            return 0;
        }
        wind = what == 0 ? v : wind;
        high = what == 1 ? v : high;
        hold = what == 2 ? v : hold;
        return 1;
    }

    private static boolean canLie(List<String> k, int[] stick, int x, int y, int high) {
        for (int i = 0; i < stick[0]; i++) {
            int lane = y + i;
            if (!cell(k, x, lane) || (high <= 1 && k.get(lane).charAt(x) == 'o')) {
                return false;
            }
        }
        return true;
    }

    private boolean noBrook(int b) {
        return b < 0 || b >= brooks.size();
    }

    private boolean noStick(int s) {
        return s < 0 || s >= sticks.size();
    }

    private boolean noMan(int r) {
        return r < 0 || r >= race.men.size();
    }

    private static boolean noN(int n) {
        return n < 1 || n > 40;
    }

    long can(int b, int s, int x, int y) {
        if (noBrook(b) || noStick(s) || !cell(brooks.get(b), x, y)) {
            return NONE;
        }
        return canLie(brooks.get(b), sticks.get(s), x, y, high) ? 1 : 0;
    }

    // ---- the RACE ----

    private static boolean covers(Man m, int x, int lane) {
        return m.place == NONE && m.x == x && lane >= m.y && lane < m.y + m.stick[0];
    }

    private static boolean othersThere(Run r, Man self, int x, int y, int length) {
        for (Man m : r.men) {
            for (int lane = y; lane < y + length; lane++) {
                if (m != self && covers(m, x, lane)) {
                    return true;
                }
            }
        }
        return false;
    }

    long on(int b) {
        if (noBrook(b)) {
            return 0;
        }
        race = new Run();
        race.brook = brooks.get(b);
        return 1;
    }

    long runner(int s, int y) {
        if (race.brook == null || noStick(s) || race.men.size() == 6 || race.started) {
            return NONE;
        }
        int[] st = sticks.get(s);
        if (!canLie(race.brook, st, 0, y, high) || othersThere(race, null, 0, y, st[0])) {
            return NONE;
        }
        race.men.add(man(st, y));
        return race.men.size() - 1;
    }

    private static Man man(int[] stick, int y) {
        Man m = new Man();
        m.stick = stick;
        m.startY = y;
        m.y = y;
        return m;
    }

    private static boolean mayStart(Run r, int high) {
        TreeSet<Integer> lanes = new TreeSet<>();
        for (Man m : r.men) {
            if (!canLie(r.brook, m.stick, 0, m.startY, high)) {
                return false;
            }
            for (int i = 0; i < m.stick[0]; i++) {
                if (!lanes.add(m.startY + i)) {
                    return false;
                }
            }
        }
        return true;
    }

    /** A new RACE of the same RUNNERS from the same starts. */
    private static Run anew(Run r, long seed) {
        Run n = new Run();
        n.brook = r.brook;
        for (Man m : r.men) {
            n.men.add(man(m.stick, m.startY));
        }
        n.started = true;
        n.state = seed;
        n.remember();
        return n;
    }

    long start(long seed) {
        if (race.men.isEmpty() || !mayStart(race, high)) {
            return 0;
        }
        race = anew(race, seed);
        return 1;
    }

    private static int pullOf(Run r, Man m, int high) {
        List<Integer> paces = new ArrayList<>();
        int sum = 0;
        for (int i = 0; i < m.stick[0]; i++) {
            paces.add(paceOf(r.brook, m.x, m.y + i, high));
            sum += paces.get(i);
        }
        int pull = m.stick[0] <= 2 ? Collections.max(paces) : sum / m.stick[0];
        int more = m.stick[1] > 5 ? (m.stick[1] - 5) / 2 : 0;
        return Math.max(0, pull - more);
    }

    private static void tickOf(Run r, int wind, int high, int hold) {
        r.ticks++;
        List<Man> order = new ArrayList<>();
        for (Man m : r.men) {
            if (m.place == NONE) {
                order.add(m);
            }
        }
        order.sort((a, b) -> b.x - a.x);
        for (Man m : order) {
            turnOf(r, m, wind, high, hold);
        }
        r.remember();
    }

    private static void turnOf(Run r, Man m, int wind, int high, int hold) {
        int length = m.stick[0];
        boolean eddy = false;
        for (int i = 0; i < length; i++) {
            eddy |= r.brook.get(m.y + i).charAt(m.x) == '@';
        }
        if (eddy) {
            r.state = r.state * 6364136223846793005L + 1442695040888963407L;
            if (Long.remainderUnsigned(r.state >>> 33, 10) < hold) {
                m.rest = 0;
                m.held++;
                return;
            }
        }
        m.rest += pullOf(r, m, high);
        boolean wave = false;
        for (Man o : r.men) {
            for (int lane = m.y; lane < m.y + length; lane++) {
                wave |= o != m && (covers(o, m.x + 1, lane) || covers(o, m.x + 2, lane));
            }
        }
        m.rest += wave ? 1 : 0;
        while (m.rest >= 4) {
            m.rest -= 4;
            if (m.x + 1 == r.brook.get(0).length()) {
                m.place = r.out();
                m.x++;
                m.outTick = r.ticks;
                return;
            }
            if (canLie(r.brook, m.stick, m.x + 1, m.y, high) && !othersThere(r, m, m.x + 1, m.y, length)) {
                m.x++;
                continue;
            }
            int s = m.y;
            while (!(high <= 1 && r.brook.get(s).charAt(m.x + 1) == 'o') && !othersThere(r, m, m.x + 1, s, 1)) {
                s++;
            }
            m.struck++;
            r.strikes.add(m.x);
            m.rest = 0;
            shift(r, m, 2 * (s - m.y) < length ? 1 : -1, high);
            return;
        }
        if (wind != 0 && Math.abs(wind * m.stick[2]) >= 9) {
            shift(r, m, wind > 0 ? 1 : -1, high);
        }
    }

    private static void shift(Run r, Man m, int by, int high) {
        if (canLie(r.brook, m.stick, m.x, m.y + by, high) && !othersThere(r, m, m.x, m.y + by, m.stick[0])) {
            m.y += by;
        }
    }

    long tick(int n) {
        if (!race.started || n < 1 || n > 60) {
            return NONE;
        }
        int ran = 0;
        while (ran < n && !race.over()) {
            tickOf(race, wind, high, hold);
            ran++;
        }
        return ran;
    }

    long look(int r, int what) {
        if (noMan(r) || what < 0 || what > 6) {
            return HIDDEN;
        }
        Man m = race.men.get(r);
        return new int[] {m.x, m.y, m.rest, m.outTick, race.place(r), m.held, m.struck}[what];
    }

    long pull(int r) {
        return noMan(r) || race.men.get(r).place != NONE ? NONE : pullOf(race, race.men.get(r), high);
    }

    long lies(int x, int y) {
        if (cell(race.brook, x, y)) {
            for (int i = 0; i < race.men.size(); i++) {
                if (covers(race.men.get(i), x, y)) {
                    return i;
                }
            }
        }
        return NONE;
    }

    // ---- over many seeds ----

    private Run whole(Run told, long seed, int withHigh) {
        Run r = anew(told, seed);
        while (!r.over()) {
            tickOf(r, wind, withHigh, hold);
        }
        return r;
    }

    private List<Run> wholes(Run told, int n) {
        List<Run> all = new ArrayList<>();
        for (int seed = 0; seed < n; seed++) {
            all.add(whole(told, seed, high));
        }
        return all;
    }

    private static int wins(List<Run> runs, int r) {
        int n = 0;
        for (Run run : runs) {
            n += run.place(r) == 0 ? 1 : 0;
        }
        return n;
    }

    private static int sum(List<Run> runs, int r) {
        int n = 0;
        for (Run run : runs) {
            n += run.place(r);
        }
        return n;
    }

    long odds(int r, int n, int what) {
        if (noMan(r) || noN(n) || what < 0 || what > 1 || !mayStart(race, high)) {
            return NONE;
        }
        return what == 0 ? wins(wholes(race, n), r) : sum(wholes(race, n), r);
    }

    private Run lone(List<String> k, int[] stick, int y) {
        Run r = new Run();
        r.brook = k;
        r.men.add(man(stick, y));
        return r;
    }

    private int aloneOf(List<String> k, int[] stick, int y, long seed) {
        Run r = lone(k, stick, y);
        if (!mayStart(r, high)) {
            return NONE;
        }
        int out = whole(r, seed, high).men.get(0).outTick;
        return out == NONE ? 99 : out;
    }

    private List<Integer> alones(List<String> k, int[] stick, int y, int n) {
        List<Integer> all = new ArrayList<>();
        for (int seed = 0; seed < n; seed++) {
            int t = aloneOf(k, stick, y, seed);
            if (t == NONE) {
                return List.of();
            }
            all.add(t);
        }
        return all;
    }

    private static int total(List<Integer> all) {
        int n = 0;
        for (int v : all) {
            n += v;
        }
        return n;
    }

    long alone(int b, int s, int y, long seed) {
        return noBrook(b) || noStick(s) ? NONE : aloneOf(brooks.get(b), sticks.get(s), y, seed);
    }

    long luck(int r, int n, int rounds, int won) {
        if (noMan(r) || noN(n) || rounds < 1 || rounds > 20 || won < 0 || won > rounds || !mayStart(race, high)) {
            return NONE;
        }
        long w = wins(wholes(race, n), r);
        List<Long> parts = new ArrayList<>(List.of(1000000L));
        for (int i = 0; i < rounds; i++) {
            List<Long> next = new ArrayList<>();
            for (int j = 0; j <= parts.size(); j++) {
                long stay = j < parts.size() ? parts.get(j) * (n - w) / n : 0;
                long come = j > 0 ? parts.get(j - 1) * w / n : 0;
                next.add(stay + come);
            }
            parts = next;
        }
        long tail = 0;
        for (int j = won; j < parts.size(); j++) {
            tail += parts.get(j);
        }
        return tail;
    }

    private boolean noSticks(int bits) {
        return bits < 1 || bits >= 1 << sticks.size();
    }

    long best(int b, int bits, int n, int what) {
        if (noBrook(b) || noSticks(bits) || noN(n) || what < 0 || what > 2) {
            return NONE;
        }
        TreeMap<Integer, int[]> bySum = new TreeMap<>();
        for (int s = 0; s < sticks.size(); s++) {
            for (int y = 0; y < 6; y++) {
                List<Integer> all = alones(brooks.get(b), sticks.get(s), y, n);
                if ((bits >> s) % 2 == 1 && !all.isEmpty()) {
                    bySum.putIfAbsent(total(all), new int[] {s, y, total(all)});
                }
            }
        }
        return bySum.isEmpty() ? NONE : bySum.firstEntry().getValue()[what];
    }

    private Run pair(int b, int one, int y, int other, int z) {
        Run r = lone(brooks.get(b), sticks.get(one), y);
        r.men.add(man(sticks.get(other), z));
        return mayStart(r, high) ? r : null;
    }

    long choice(int b, int one, int other, int n, int what) {
        if (noBrook(b) || noStick(one) || noStick(other) || noN(n) || what < 0 || what > 2) {
            return HIDDEN;
        }
        int[] chosen = null;
        for (int y = 0; y < 6; y++) {
            int[] reply = null;
            for (int z = 0; z < 6; z++) {
                Run r = pair(b, one, y, other, z);
                if (r != null) {
                    List<Run> runs = wholes(r, n);
                    int game = wins(runs, 0) - wins(runs, 1);
                    if (reply == null || game < reply[2]) {
                        reply = new int[] {y, z, game};
                    }
                }
            }
            if (reply != null && (chosen == null || reply[2] > chosen[2])) {
                chosen = reply;
            }
        }
        return chosen == null ? HIDDEN : chosen[what];
    }

    long same(int a, int b, int n) {
        if (race.men.isEmpty() || a < 0 || a > 3 || b < 0 || b > 3 || noN(n)) {
            return NONE;
        }
        if (!mayStart(race, a) || !mayStart(race, b)) {
            return NONE;
        }
        int alike = 0;
        for (int seed = 0; seed < n; seed++) {
            Run p = whole(race, seed, a);
            Run q = whole(race, seed, b);
            boolean all = true;
            for (int i = 0; i < race.men.size(); i++) {
                all &= p.place(i) == q.place(i);
            }
            alike += all ? 1 : 0;
        }
        return alike;
    }

    long carved(int b, int y, int rule, int what) {
        if (noBrook(b) || y < 0 || y >= brooks.get(b).size() || rule < 0 || rule > 30 || what < 0 || what > 3) {
            return NONE;
        }
        int[] found = {NONE, NONE, NONE, NONE};
        for (int code = 100; code <= 599; code++) {
            int[] s = {code / 100, code / 10 % 10, code % 10};
            int t = 2 * s[0] + s[1] + s[2] <= rule ? aloneOf(brooks.get(b), s, y, 0) : NONE;
            if (t != NONE && (found[3] == NONE || t < found[3])) {
                found = new int[] {s[0], s[1], s[2], t};
            }
        }
        return found[what];
    }

    // ---- which BROOK ----

    /** The TRIALS as {STICK, y}; null: not told, no such ones. */
    private List<int[]> trialList(int bits, int stickBits) {
        if (bits < 1 || bits >= 1 << brooks.size() || noSticks(stickBits)) {
            return null;
        }
        List<int[]> all = new ArrayList<>();
        for (int s = 0; s < sticks.size(); s++) {
            for (int y = 0; y < 6; y++) {
                boolean fits = (stickBits >> s) % 2 == 1;
                for (int b = 0; b < brooks.size(); b++) {
                    fits &= (bits >> b) % 2 == 0 || canLie(brooks.get(b), sticks.get(s), 0, y, high);
                }
                if (fits) {
                    all.add(new int[] {s, y});
                }
            }
        }
        return all.size() > 12 ? null : all;
    }

    private TreeSet<String> pairsParted(int bits, int[] trial) {
        TreeSet<String> pairs = new TreeSet<>();
        for (int a = 0; a < brooks.size(); a++) {
            for (int b = a + 1; b < brooks.size(); b++) {
                if ((bits >> a) % 2 == 1 && (bits >> b) % 2 == 1
                        && aloneOf(brooks.get(a), sticks.get(trial[0]), trial[1], 0)
                        != aloneOf(brooks.get(b), sticks.get(trial[0]), trial[1], 0)) {
                    pairs.add(a + "/" + b);
                }
            }
        }
        return pairs;
    }

    long trials(int bits, int stickBits, int i) {
        List<int[]> all = trialList(bits, stickBits);
        if (all == null || i < -1 || i >= all.size()) {
            return NONE;
        }
        return i == -1 ? all.size() : 16 * all.get(i)[0] + all.get(i)[1];
    }

    long plan(int bits, int stickBits, int what) {
        List<int[]> all = trialList(bits, stickBits);
        if (all == null || all.isEmpty() || what < 0 || what > 1) {
            return NONE;
        }
        int first = 0;
        for (int i = 0; i < all.size(); i++) {
            if (pairsParted(bits, all.get(i)).size() > pairsParted(bits, all.get(first)).size()) {
                first = i;
            }
        }
        return what == 0 ? first : pairsParted(bits, all.get(first)).size();
    }

    /** Tries sets of a size in the order of their rising members. */
    private static int firstSet(List<TreeSet<String>> parted, int from, int left, TreeSet<String> want, int bits) {
        if (left == 0) {
            TreeSet<String> got = new TreeSet<>();
            for (int i = 0; i < parted.size(); i++) {
                if ((bits >> i) % 2 == 1) {
                    got.addAll(parted.get(i));
                }
            }
            return got.equals(want) ? bits : NONE;
        }
        for (int i = from; i < parted.size(); i++) {
            int found = firstSet(parted, i + 1, left - 1, want, bits | 1 << i);
            if (found != NONE) {
                return found;
            }
        }
        return NONE;
    }

    long fewest(int bits, int stickBits) {
        List<int[]> all = trialList(bits, stickBits);
        if (all == null) {
            return NONE;
        }
        List<TreeSet<String>> parted = new ArrayList<>();
        TreeSet<String> want = new TreeSet<>();
        for (int[] t : all) {
            parted.add(pairsParted(bits, t));
            want.addAll(pairsParted(bits, t));
        }
        for (int size = 0; size <= all.size(); size++) {
            int found = firstSet(parted, 0, size, want, 0);
            if (found != NONE) {
                return found;
            }
        }
        throw new IllegalStateException("all TRIALS together part what any parts");
    }

    long sight(int s, int y, int ticks) {
        if (noStick(s) || y < 0 || y > 5 || ticks < 1 || ticks > 99 || sights.size() == 10) {
            return NONE;
        }
        sights.add(new int[] {s, y, ticks});
        return sights.size();
    }

    private boolean agrees(List<String> k) {
        for (int[] s : sights) {
            if (aloneOf(k, sticks.get(s[0]), s[1], 0) != s[2]) {
                return false;
            }
        }
        return true;
    }

    long agree() {
        int bits = 0;
        for (int b = 0; b < brooks.size(); b++) {
            bits += agrees(brooks.get(b)) ? 1 << b : 0;
        }
        return bits;
    }

    long stoned(int b, int i) {
        if (noBrook(b) || i < -1) {
            return NONE;
        }
        List<Integer> found = new ArrayList<>();
        List<String> k = brooks.get(b);
        for (int y = 0; y < k.size(); y++) {
            for (int x = 0; x < k.get(0).length(); x++) {
                List<String> changed = new ArrayList<>(k);
                changed.set(y, k.get(y).substring(0, x) + "o" + k.get(y).substring(x + 1));
                if (!changed.equals(k) && agrees(changed)) {
                    found.add(16 * y + x);
                }
            }
        }
        return i == -1 ? found.size() : i < found.size() ? found.get(i) : NONE;
    }

    long fair(int b, int s, int turns, int what) {
        if (noBrook(b) || noStick(s) || turns < 2 || turns > 6 || what < 0 || what > 1) {
            return NONE;
        }
        List<Integer> worths = new ArrayList<>();
        for (int y = 0; y < 6; y++) {
            int t = aloneOf(brooks.get(b), sticks.get(s), y, 0);
            if (t != NONE) {
                worths.add(60 - t);
            }
        }
        if (worths.size() < turns) {
            return NONE;
        }
        worths.sort(Collections.reverseOrder());
        int[] found = {NONE, Integer.MAX_VALUE};
        for (int row = 0; row < 1 << turns; row++) {
            String bits = Integer.toBinaryString(1 << turns | row).substring(1);
            int a = 0;
            int bHas = 0;
            int bTurns = 0;
            for (int k = 0; k < turns; k++) {
                if (bits.charAt(k) == '0') {
                    a += worths.get(k);
                } else {
                    bHas += worths.get(k);
                    bTurns++;
                }
            }
            if (bTurns == turns / 2 && Math.abs(a - bHas) < found[1]) {
                found = new int[] {row, Math.abs(a - bHas)};
            }
        }
        return found[what];
    }

    // ---- as it was run ----

    long image() {
        if (!race.started) {
            return NONE;
        }
        kept = race.copy();
        return race.ticks;
    }

    long back() {
        if (kept == null) {
            return NONE;
        }
        race = kept.copy();
        return race.ticks;
    }

    long was(int r, int tick, int what) {
        if (!race.started || noMan(r) || tick < 0 || tick > race.ticks || what < 0 || what > 1) {
            return NONE;
        }
        return race.past.get(tick).get(r)[what];
    }

    long passed(int r, int x) {
        if (!race.started || noMan(r) || x < 1 || x > 16) {
            return NONE;
        }
        for (int t = 0; t <= race.ticks; t++) {
            if (race.past.get(t).get(r)[0] >= x) {
                return t;
            }
        }
        return NONE;
    }

    long leader(int tick) {
        if (!race.started || tick < 0 || tick > race.ticks) {
            return NONE;
        }
        int first = 0;
        for (int i = 0; i < race.men.size(); i++) {
            Man m = race.men.get(i);
            if (m.place == 0 && m.outTick <= tick) {
                return i;
            }
            if (race.past.get(tick).get(i)[0] > race.past.get(tick).get(first)[0]) {
                first = i;
            }
        }
        return first;
    }

    long led(int r) {
        if (!race.started || (r != -1 && noMan(r))) {
            return NONE;
        }
        int n = 0;
        for (int t = 1; t <= race.ticks; t++) {
            boolean changed = t > 1 && leader(t) != leader(t - 1);
            n += r == -1 ? (changed ? 1 : 0) : (leader(t) == r ? 1 : 0);
        }
        return n;
    }

    long struck(int x) {
        if (!race.started || x < -1 || x > 15) {
            return NONE;
        }
        if (x >= 0) {
            return Collections.frequency(race.strikes, x);
        }
        int narrow = NONE;
        for (int i = 15; i >= 0; i--) {
            int n = Collections.frequency(race.strikes, i);
            if (n > 0 && (narrow == NONE || n >= Collections.frequency(race.strikes, narrow))) {
                narrow = i;
            }
        }
        return narrow;
    }

    // ---- by turns, duels, ladders ----

    long rounds(int r, int n, int what) {
        if (noMan(r) || noN(n) || what < 0 || what > 2) {
            return NONE;
        }
        int[] found = {0, 0, 0};
        int size = race.men.size();
        for (int k = 0; k < size; k++) {
            Run turned = new Run();
            turned.brook = race.brook;
            for (int i = 0; i < size; i++) {
                turned.men.add(man(race.men.get(i).stick, race.men.get((i + k) % size).startY));
            }
            if (mayStart(turned, high)) {
                List<Run> runs = wholes(turned, n);
                found[0] += wins(runs, r);
                found[1] += sum(runs, r);
                found[2]++;
            }
        }
        return found[what];
    }

    long duel(int b, int one, int other, int n) {
        if (noBrook(b) || noStick(one) || noStick(other) || noN(n)) {
            return HIDDEN;
        }
        long lead = 0;
        boolean met = false;
        for (int y = 0; y < 6; y++) {
            for (int z = 0; z < 6; z++) {
                Run r = pair(b, one, y, other, z);
                if (r != null) {
                    met = true;
                    List<Run> runs = wholes(r, n);
                    lead += wins(runs, 0) - wins(runs, 1);
                }
            }
        }
        return met ? lead : HIDDEN;
    }

    long ladder(int b, int bits, int n, int i) {
        if (noBrook(b) || noSticks(bits) || noN(n)) {
            return NONE;
        }
        List<int[]> rungs = new ArrayList<>();
        for (int s = 0; s < sticks.size(); s++) {
            long sum = (bits >> s) % 2 == 1 ? best(b, 1 << s, n, 2) : NONE;
            if (sum != NONE) {
                rungs.add(new int[] {s, (int) sum});
            }
        }
        rungs.sort((p, q) -> p[1] - q[1]);
        if (i < -1 || i >= rungs.size()) {
            return NONE;
        }
        return i == -1 ? rungs.size() : rungs.get(i)[0];
    }

    long reach(int b, int s, int y, int n, int what) {
        if (noBrook(b) || noStick(s) || noN(n) || what < 0 || what > 2) {
            return NONE;
        }
        List<Integer> all = new ArrayList<>(alones(brooks.get(b), sticks.get(s), y, n));
        if (all.isEmpty()) {
            return NONE;
        }
        Collections.sort(all);
        return all.get(what == 0 ? 0 : what == 1 ? n - 1 : (n - 1) / 2);
    }

    long close(int n) {
        if (race.men.size() < 2 || noN(n) || !mayStart(race, high)) {
            return NONE;
        }
        int ties = 0;
        for (Run run : wholes(race, n)) {
            int first = -1;
            int second = -2;
            for (Man m : run.men) {
                first = m.place == 0 ? m.outTick : first;
                second = m.place == 1 ? m.outTick : second;
            }
            ties += first == second ? 1 : 0;
        }
        return ties;
    }

    long count(int what) {
        switch (what) {
            case 0: return brooks.size();
            case 1: return sticks.size();
            case 2: return race.men.size();
            case 3: return sights.size();
            case 4: return tape.length();
            case 5: return race.started ? race.ticks : NONE;
            case 6: return wind;
            case 7: return high;
            case 8: return hold;
            default: return HIDDEN;
        }
    }
}
