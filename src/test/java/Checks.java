import java.util.NoSuchElementException;

/** What all tests use: comparing an answer with the one that is due, and telling texts to an object. */
final class Checks {
    static final int NONE = StickRace.NONE;
    static final int HIDDEN = StickRace.HIDDEN;
    private static int wrong = 0;
    private static int done = 0;
    private static String subject = "";

    private Checks() {
    }

    /** What the next answers are about: it stands ahead of each that is not as due. */
    static void about(String what) {
        subject = what.isEmpty() ? "" : what + ": ";
    }

    static int done() {
        return done;
    }

    static void due(String what, long got, long want) {
        done++;
        if (got != want) {
            wrong++;
            System.out.println(subject + what + " answered " + got + ", due is " + want);
        }
    }

    static void due(String what, boolean got, boolean want) {
        due(what, got ? 1 : 0, want ? 1 : 0);
    }

    static void throwsNoSuchElement(StickRace r, int brook, int what) {
        done++;
        try {
            r.brook(brook, what);
            wrong++;
            System.out.println(subject + "brook(" + brook + ", " + what + ") did not throw");
        } catch (NoSuchElementException e) {
            // That is what is due.
        }
    }

    /** The five numbers of one feed() that bring the first twenty signs of a text at most. */
    static int[] numbers(String text) {
        int[] five = new int[5];
        for (int i = 0; i < 20 && i < text.length(); i++) {
            five[i / 4] |= text.charAt(i) << (24 - 8 * (i % 4));
        }
        return five;
    }

    /** Puts a text behind what the TAPE has; answers what the last feed() did. */
    static int feed(StickRace r, String text) {
        int last = NONE;
        for (int i = 0; i < text.length(); i += 20) {
            int[] n = numbers(text.substring(i));
            last = r.feed(n[0], n[1], n[2], n[3], n[4]);
        }
        return last;
    }

    /** The TAPE has this text alone. */
    static void tape(StickRace r, String text) {
        r.end(0);
        feed(r, text);
    }

    static int brook(StickRace r, String text) {
        tape(r, text);
        return r.text(0);
    }

    static int stick(StickRace r, String text) {
        tape(r, text);
        return r.text(1);
    }

    /** A new object with one BROOK that RUNNERS are on, and some STICKS. */
    static StickRace onBrook(String brook, String... sticks) {
        StickRace r = new StickRace();
        due("text of " + brook, brook(r, brook), 0);
        for (int i = 0; i < sticks.length; i++) {
            due("text of " + sticks[i], stick(r, sticks[i]), i);
        }
        due("on the brook", r.on(0), true);
        return r;
    }

    /** All that count() and the RUNNERS tell, in one text: for what a refused call must not change. */
    static String state(StickRace r) {
        StringBuilder all = new StringBuilder();
        for (int what = 0; what <= 8; what++) {
            all.append(r.count(what)).append(' ');
        }
        for (int i = 0; i < r.count(2); i++) {
            for (int what = 0; what <= 6; what++) {
                all.append(r.look(i, what)).append(what == 6 ? ';' : ',');
            }
        }
        all.append(" agree ").append(r.agree()).append(" led ").append(r.led(NONE));
        all.append(" struck ").append(r.struck(NONE)).append(" faults ").append(r.fault(0)).append(r.fault(1));
        return all.toString();
    }

    static void unchanged(String what, StickRace r, String before) {
        done++;
        if (!state(r).equals(before)) {
            wrong++;
            System.out.println(subject + what + " changed the state from " + before + " to " + state(r));
        }
    }

    static void finish(String name) {
        System.out.println(name + ": " + done + " answers, " + wrong + " not as due");
        if (wrong != 0) {
            System.exit(1);
        }
    }
}
