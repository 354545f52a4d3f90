/** The document, sentence by sentence: what it is, part 1 of the terms, promises 1 to 10. */
final class EdgesOfTexts {
    private static final int NONE = Checks.NONE;
    private static final int MIN = Integer.MIN_VALUE;
    private static final int MAX = Integer.MAX_VALUE;
    private static final String FULL_BROOK = "4444444444444444;4444444444444444;4444444444444444;4444444444444444;"
        + "4444444444444444;4444444444444444";

    private EdgesOfTexts() {
    }

    static void all() {
        callsOfAnObject();
        constants();
        numbersOfBrooks();
        numbersOfLanes();
        numbersOfCells();
        signs();
        faultOfABrook();
        cellsTooMany();
        wrongSemicolons();
        lanesAndCells();
        items();
        letters();
        numbersBehindLetters();
        outOfBounds();
        thirdDigits();
        lettersTwice();
        blanks();
        weathers();
        newObject();
        feed();
        feedTooMuch();
        end();
        fault();
        text();
        textRefused();
        brook();
        pace();
        stick();
        weather();
        can();
    }

    private static void callsOfAnObject() {
        Edge.of("What it is", "An object is used for at most 512 calls after it has been made; what later calls answer is free.");
        StickRace r = new StickRace();
        for (int call = 1; call <= 508; call++) {
            Checks.due("call " + call, r.end(call % 3 == 0 ? 0 : -1), call % 3 == 0);
        }
        int[] five = Checks.numbers("4444;4444");
        Checks.due("call 509", r.feed(five[0], five[1], five[2], five[3], five[4]), 9);
        Checks.due("call 510", r.text(0), 0);
        Checks.due("call 511", r.on(0), true);
        Checks.due("call 512", r.count(0), 1);
    }

    private static void constants() {
        Edge.of("Constants", "`NONE = -1`: None; refused.");
        Checks.due("NONE", StickRace.NONE, -1);
        Checks.due("an answer of none", new StickRace().back(), -1);
        Edge.of("Constants", "`HIDDEN = -1000`: Not told.");
        Checks.due("HIDDEN", StickRace.HIDDEN, -1000);
        Checks.due("an answer that is not told", new StickRace().count(9), -1000);
    }

    // ---- Terms 1 ----

    private static void fault(int sort, String text, int due) {
        StickRace r = new StickRace();
        Checks.tape(r, text);
        Checks.due("fault(" + sort + ") of \"" + text + "\"", r.fault(sort), due);
    }

    private static void numbersOfBrooks() {
        Edge.of("Terms 1", "BROOKS (6 at most) are TEXTS:");
        StickRace r = new StickRace();
        for (int i = 0; i < 6; i++) {
            Checks.due("BROOK " + i, Checks.brook(r, "999" + (i + 1) + ";1111"), i);
        }
        Checks.due("a seventh", Checks.brook(r, "8888;8888"), NONE);
        Checks.due("six there are", r.count(0), 6);
        for (int i = 0; i < 6; i++) {
            Checks.due("BROOK " + i + " as it was", r.pace(i, 3, 0), i + 1);
        }
        Checks.due("a STICK is taken still", Checks.stick(r, "l1"), 0);
    }

    private static void numbersOfLanes() {
        Edge.of("Terms 1", "LANES with ; between (2 .. 6),");
        int[] due = {0, 4, NONE, NONE, NONE, NONE, NONE, 29};
        StringBuilder t = new StringBuilder();
        for (int lanes = 0; lanes <= 7; lanes++) {
            fault(0, t.toString(), due[lanes]);
            if (due[lanes] == NONE) {
                StickRace r = new StickRace();
                Checks.brook(r, t.toString());
                Checks.due("LANES", r.brook(0, 0), lanes);
            }
            t.append(lanes == 0 ? "" : ";").append("4444");
        }
        fault(0, "4444,4444", 4);
        fault(0, "4444:4444", 4);
    }

    private static void numbersOfCells() {
        Edge.of("Terms 1", "all with as many CELLS as the first (4 .. 16):");
        for (int cells = 1; cells <= 18; cells++) {
            String lane = "5".repeat(cells);
            fault(0, lane + ";" + lane, cells < 4 ? cells : cells > 16 ? 16 : NONE);
            if (cells >= 4 && cells <= 16) {
                StickRace r = new StickRace();
                Checks.brook(r, lane + ";" + lane);
                Checks.due("CELLS", r.brook(0, 1), cells);
                fault(0, lane + ";" + lane.substring(1), 2 * cells);
                fault(0, lane + ";" + lane + "5", 2 * cells + 1);
                fault(0, lane + ";" + lane + ";" + lane.substring(1), 3 * cells + 1);
                fault(0, lane + ";" + lane + ";" + lane + "5", 3 * cells + 2);
            }
        }
    }

    private static boolean isCell(int b) {
        return (b >= '1' && b <= '9') || b == 'o' || b == '@';
    }

    private static void signs() {
        Edge.of("Terms 1", "signs 1 .. 9 (a PACE), o (a STONE), @ (an EDDY).");
        for (int b = 1; b <= 255; b++) {
            StickRace first = new StickRace();
            first.feed(b, 0, 0, 0, 0);
            Checks.due("byte " + b + " as the first", first.fault(0), isCell(b) || b == ' ' ? 1 : 0);
            StickRace last = new StickRace();
            Checks.feed(last, "4444;444");
            last.feed(b, 0, 0, 0, 0);
            Checks.due("byte " + b + " as the last", last.fault(0), isCell(b) ? NONE : b == ' ' ? 9 : 8);
        }
        for (int sign = 1; sign <= 9; sign++) {
            StickRace r = new StickRace();
            Checks.brook(r, "444" + sign + ";4444");
            Checks.due("a PACE of " + sign, r.pace(0, 3, 0), sign);
        }
        StickRace r = new StickRace();
        Checks.brook(r, "oooo;@@@4");
        Checks.due("STONES", r.brook(0, 2), 4);
        Checks.due("EDDIES", r.brook(0, 3), 3);
    }

    private static void faultOfABrook() {
        Edge.of("Terms 1", "FAULT: the first byte at which no BROOK can go on (the length, if it ends too early);");
        String whole = "19o@;4444";
        for (int n = 0; n < whole.length(); n++) {
            fault(0, whole.substring(0, n), n);
            fault(0, whole.substring(0, n) + "x" + whole.substring(n), n);
            fault(0, whole.substring(0, n) + "xx", n);
        }
        fault(0, whole, NONE);
        fault(0, whole + "x", 9);
        fault(0, whole + ";444", 13);
    }

    private static void cellsTooMany() {
        Edge.of("Terms 1", "a seventeenth CELL, or one more than the first LANE has, is wrong at it;");
        String sixteen = "1234567891234567";
        for (char cell : "19o@".toCharArray()) {
            fault(0, sixteen + cell, 16);
            fault(0, "  " + sixteen + "  " + cell, 20);
            fault(0, sixteen + ";" + sixteen + cell, 33);
            fault(0, "4444;4444" + cell, 9);
            fault(0, "4444;4444;4444 " + cell, 15);
            fault(0, "4444;4444;4444;4444;4444;4444" + cell, 29);
        }
        fault(0, sixteen, 16);
        fault(0, sixteen + ";", 17);
    }

    private static void wrongSemicolons() {
        Edge.of("Terms 1", "a ; behind a LANE that is too short, a seventh LANE's ; are wrong.");
        fault(0, ";", 0);
        fault(0, "  ;", 2);
        fault(0, "4;", 1);
        fault(0, "44;", 2);
        fault(0, "444;", 3);
        fault(0, "4444;", 5);
        fault(0, "4444;;", 5);
        fault(0, "55555;5555;", 10);
        fault(0, "55555;55555;5555;", 16);
        fault(0, FULL_BROOK + ";", 101);
        fault(0, FULL_BROOK + " ; ", 102);
        fault(0, FULL_BROOK, NONE);
        fault(0, "1111;1111;1111;1111;1111;111;", 28);
    }

    private static void lanesAndCells() {
        Edge.of("Terms 1", "LANES are numbered from 0 (y), CELLS from 0 (x, down the brook); behind the last CELL is the END.");
        StickRace r = Checks.onBrook("1234;5678", "l1");
        for (int i = 0; i < 8; i++) {
            Checks.due("PACE at x " + i % 4 + ", y " + i / 4, r.pace(0, i % 4, i / 4), i + 1);
        }
        StickRace end = Checks.onBrook("4444;4444", "l1");
        end.runner(0, 1);
        end.start(0L);
        end.tick(3);
        Checks.due("on the last CELL", end.look(0, 0), 3);
        Checks.due("not OUT there", end.look(0, 3), NONE);
        end.tick(1);
        Checks.due("one on is the END", end.look(0, 3), 4);
        Checks.due("its x is CELLS", end.look(0, 0), 4);
    }

    private static void items() {
        Edge.of("Terms 1", "STICKS (10 at most) are TEXTS: ITEMS with , between, one at least:");
        StickRace r = new StickRace();
        for (int i = 0; i < 10; i++) {
            Checks.due("STICK " + i, Checks.stick(r, "f" + i), i);
        }
        Checks.due("an eleventh", Checks.stick(r, "l2"), NONE);
        Checks.due("ten there are", r.count(1), 10);
        for (int i = 0; i < 10; i++) {
            Checks.due("STICK " + i + " as it was", r.stick(i, 2), i);
        }
        Checks.due("a BROOK is taken still", Checks.brook(r, "4444;4444"), 0);
        fault(1, "", 0);
        fault(1, "  ", 2);
        fault(1, ",", 0);
        fault(1, "l1", NONE);
        fault(1, "l1,", 3);
        fault(1, "l1,h2", NONE);
        fault(1, "l1,,h2", 3);
        fault(1, "l1h2", 2);
        fault(1, "l1;h2", 2);
        fault(1, "l1,h2,", 6);
        fault(1, "l1,h2,f3", NONE);
    }

    private static void letters() {
        Edge.of("Terms 1", "a letter, each once at most, and a number:");
        for (int b = 1; b <= 255; b++) {
            boolean letter = b == 'l' || b == 'h' || b == 'f';
            StickRace first = new StickRace();
            first.feed(b, 0, 0, 0, 0);
            Checks.due("byte " + b + " as the first", first.fault(1), letter || b == ' ' ? 1 : 0);
            StickRace number = new StickRace();
            number.feed('h', b, 0, 0, 0);
            boolean digit = b >= '0' && b <= '9';
            Checks.due("byte " + b + " behind a letter", number.fault(1), digit ? NONE : b == ' ' ? 2 : 1);
            StickRace behind = new StickRace();
            behind.feed('h', '0', b, 0, 0);
            int due = digit || b == ' ' ? NONE : b == ',' ? 3 : 2;
            Checks.due("byte " + b + " behind a number", behind.fault(1), due);
        }
        String[] rows = {"l1,h1,f1", "l1,f1,h1", "h1,l1,f1", "h1,f1,l1", "f1,l1,h1", "f1,h1,l1"};
        for (String row : rows) {
            StickRace r = new StickRace();
            Checks.due("in any order: " + row, Checks.stick(r, row), 0);
            for (int what = 0; what < 3; what++) {
                Checks.due(row + ", " + what, r.stick(0, what), 1);
            }
        }
    }

    /** The FAULT of a letter with a number of one or two digits: within its bounds, or wrong at its last digit. */
    private static void numbers(char letter, int what, int least, int most, int without) {
        for (int n = 0; n <= 99; n++) {
            String two = "" + n / 10 + n % 10;
            int due = n >= least && n <= most ? NONE : 2;
            fault(1, letter + two, due);
            if (n < 10) {
                fault(1, "" + letter + n, due == NONE ? NONE : 1);
            }
            if (due == NONE) {
                StickRace r = new StickRace();
                Checks.stick(r, letter + two);
                Checks.due("the number of " + letter + two, r.stick(0, what), n);
            }
        }
        StickRace r = new StickRace();
        Checks.stick(r, letter == 'l' ? "h1" : "l1");
        Checks.due("without " + letter, r.stick(0, what), without);
    }

    private static void numbersBehindLetters() {
        Edge.of("Terms 1", "l LENGTH (1 .. 5 LANES; 1 without),");
        numbers('l', 0, 1, 5, 1);
        Edge.of("Terms 1", "h how HEAVY (0 .. 9; 5),");
        numbers('h', 1, 0, 9, 5);
        Edge.of("Terms 1", "f FEATHER (0 .. 9; 0).");
        numbers('f', 2, 0, 9, 0);
    }

    private static void outOfBounds() {
        Edge.of("Terms 1", "FAULT likewise: a number (of one or two digits) out of bounds is wrong at its last digit,");
        fault(1, "l0", 1);
        fault(1, "l0,h1", 1);
        fault(1, "l6 ", 1);
        fault(1, "l00", 2);
        fault(1, "l06", 2);
        fault(1, "l10", 2);
        fault(1, "l 10", 3);
        fault(1, "h10", 2);
        fault(1, "h99,", 2);
        fault(1, "h1,f10", 5);
        fault(1, "h1 , f 10", 8);
        fault(1, "l1,h2,f99", 8);
        fault(1, "l1,h2,f", 7);
        fault(1, "l1,h2,f ", 8);
        fault(1, "l1,h2,x3", 6);
        // Neither a letter nor another sign is a number, whatever digit stands behind it.
        for (int b = 1; b <= 255; b++) {
            if ((b < '0' || b > '9') && b != ' ') {
                fault(1, "l" + (char) b, 1);
                fault(1, "h" + (char) b + "5", 1);
                fault(1, "f  " + (char) b + "05", 3);
            }
        }
    }

    private static void thirdDigits() {
        Edge.of("Terms 1", "a third digit itself (whatever the two ahead of it),");
        for (int n = 0; n <= 99; n++) {
            String two = "" + n / 10 + n % 10;
            for (char letter : "lhf".toCharArray()) {
                fault(1, letter + two + "0", 3);
                fault(1, "  " + letter + " " + two + "77,", 6);
            }
        }
        fault(1, "l1,h009", 6);
    }

    private static void lettersTwice() {
        Edge.of("Terms 1", "a letter that was there at it.");
        for (char letter : "lhf".toCharArray()) {
            fault(1, letter + "1," + letter + "1", 3);
            fault(1, letter + "1," + letter, 3);
            fault(1, letter + "1 , " + letter + "x", 5);
            for (char other : "lhf".toCharArray()) {
                if (other != letter) {
                    fault(1, letter + "1," + other + "2," + letter + "1", 6);
                    fault(1, other + "1," + letter + "2," + letter + "1", 6);
                }
            }
        }
    }

    private static void blanks() {
        Edge.of("Terms 1", "In both TEXTS blanks (32) may stand between all signs, not within numbers.");
        fault(0, "   4 4  4 4 ;  4 4 4 4  ", NONE);
        fault(1, "   l  1 ,  h  02 , f  3  ", NONE);
        fault(1, "h0 0", 3);
        fault(1, "h 0 0", 4);
        fault(1, "h1 ,f0 1", 7);
        for (int b : new int[] {9, 10, 13, 160, 31, 33}) {
            StickRace r = new StickRace();
            r.feed(b, 0, 0, 0, 0);
            Checks.due("byte " + b + " is no blank of a BROOK", r.fault(0), 0);
            Checks.due("byte " + b + " is no blank of a STICK", r.fault(1), 0);
        }
        StickRace r = new StickRace();
        Checks.due("a BROOK with blanks", Checks.brook(r, " 1 2 3 4 ; 5 6 7 8 "), 0);
        Checks.due("its LANES", r.brook(0, 0), 2);
        Checks.due("its CELLS", r.brook(0, 1), 4);
        Checks.due("its last CELL", r.pace(0, 3, 1), 8);
        Checks.due("a STICK with blanks", Checks.stick(r, " f 7 , l 2 "), 0);
        Checks.due("its LENGTH", r.stick(0, 0), 2);
        Checks.due("its FEATHER", r.stick(0, 2), 7);
        // 160 bytes in all, the last one too: 150 blanks and the BROOK, 158 blanks and the STICK.
        fault(0, " ".repeat(151) + "4444;4444", NONE);
        fault(1, " ".repeat(158) + "l1", NONE);
        fault(1, "l" + " ".repeat(158) + "1", NONE);
    }

    /** All values of a bound are taken, and those just outside and far away are not. */
    private static void bounds(int what, int least, int most, int first) {
        StickRace r = new StickRace();
        Checks.due("at first", r.count(6 + what), first);
        for (int v = least; v <= most; v++) {
            Checks.due("weather(" + what + ", " + v + ")", r.weather(what, v), true);
            Checks.due("it is so", r.count(6 + what), v);
        }
        for (int v : new int[] {least - 1, most + 1, MIN, MAX, 256 + least}) {
            Checks.due("weather(" + what + ", " + v + ")", r.weather(what, v), false);
            Checks.due("it stays", r.count(6 + what), most);
        }
    }

    private static void weathers() {
        Edge.of("Terms 1", "WIND is -3 .. 3 (0 at first), HIGH water 0 .. 3 (0), HOLD 0 .. 10 (5).");
        bounds(0, -3, 3, 0);
        bounds(1, 0, 3, 0);
        bounds(2, 0, 10, 5);
    }

    // ---- Promises 1 to 10 ----

    private static void newObject() {
        Edge.of("Promise 1", "No BROOKS, no STICKS.");
        StickRace other = Checks.onBrook("4444;4444", "l1");
        other.runner(0, 0);
        other.start(0L);
        other.image();
        other.sight(0, 0, 3);
        other.weather(0, 3);
        other.weather(1, 3);
        other.weather(2, 9);
        Checks.feed(other, "l1");
        StickRace r = new StickRace();
        int[] due = {0, 0, 0, 0, 0, NONE, 0, 0, 5};
        for (int what = 0; what <= 8; what++) {
            Checks.due("count(" + what + "), whatever was told to another object", r.count(what), due[what]);
        }
        for (int what = 0; what <= 3; what++) {
            Checks.throwsNoSuchElement(r, 0, what);
            Checks.due("stick(0, " + what + ")", r.stick(0, what), NONE);
        }
        Checks.due("no BROOK that AGREES", r.agree(), 0);
        Checks.due("no IMAGE", r.back(), NONE);
        Checks.due("the TAPE ends too early for a BROOK", r.fault(0), 0);
        Checks.due("and for a STICK", r.fault(1), 0);
    }

    private static void feed() {
        Edge.of("Promise 2", "Twenty bytes more come to the TAPE (of each number the highest first; bytes of 0 are left "
            + "out): how many it has.");
        Checks.due("none but 0", new StickRace().feed(0, 0, 0, 0, 0), 0);
        Checks.due("twenty", new StickRace().feed(-1, -1, -1, -1, -1), 20);
        Checks.due("the greatest ints", new StickRace().feed(MAX, MAX, MAX, MAX, MAX), 20);
        Checks.due("the least ints have one byte each", new StickRace().feed(MIN, MIN, MIN, MIN, MIN), 5);
        Checks.due("1 in each", new StickRace().feed(1, 1, 1, 1, 1), 5);
        Checks.due("0 within", new StickRace().feed(0x01000001, 0x00010100, 0, 0x00FF0000, 0x01010001), 8);
        for (int b = 0; b <= 255; b++) {
            int got = new StickRace().feed(b << 24, b << 16, b << 8, b, b * 0x01010101);
            Checks.due("byte " + b + " at each place of a number, and at all of one", got, b == 0 ? 0 : 8);
        }
        // l, 1, the blank, the comma, h and 2, each from another byte of another number.
        StickRace r = new StickRace();
        Checks.due("spread", r.feed(0x006C0000, 0x31002000, 0x0000002C, 0x68000000, 0x00003200), 6);
        Checks.due("in that order a STICK", r.text(1), 0);
        Checks.due("its HEAVY", r.stick(0, 1), 2);
        StickRace order = new StickRace();
        order.feed(0x68394C00, 0, 0, 0, 0);
        Checks.due("the highest byte first", order.fault(1), 2);
        StickRace more = new StickRace();
        Checks.due("h", more.feed('h', 0, 0, 0, 0), 1);
        Checks.due("and 7 behind it", more.feed(0, 0, 0, 0, '7'), 2);
        Checks.due("as one text", more.text(1), 0);
        Checks.due("its HEAVY is 7", more.stick(0, 1), 7);
    }

    /** An object whose TAPE has so many bytes, all blanks. */
    private static StickRace blankTape(int bytes) {
        StickRace r = new StickRace();
        Checks.due("blanks", Checks.feed(r, " ".repeat(bytes)), bytes);
        return r;
    }

    private static void feedTooMuch() {
        Edge.of("Promise 2", "NONE: more than 160.");
        Checks.due("140 and 20", blankTape(140).feed(-1, -1, -1, -1, -1), 160);
        Checks.due("141 and 20", blankTape(141).feed(-1, -1, -1, -1, -1), NONE);
        Checks.due("141 and 19", blankTape(141).feed(-1, -1, -1, -1, 0x00FFFFFF), 160);
        Checks.due("159 and 1", blankTape(159).feed(0, 0, 0, 0, 1), 160);
        Checks.due("159 and 2", blankTape(159).feed(1, 0, 0, 0, 1), NONE);
        StickRace full = blankTape(160);
        Checks.due("160 and 0", full.feed(0, 0, 0, 0, 0), 160);
        for (int i = 0; i < 5; i++) {
            int[] one = new int[5];
            one[i] = MIN;
            Checks.due("160 and 1 in number " + i, full.feed(one[0], one[1], one[2], one[3], one[4]), NONE);
            Checks.due("160 still", full.count(4), 160);
        }
        Checks.due("all of them blanks still", full.fault(0), 160);
        for (int shift = 0; shift < 32; shift += 8) {
            StickRace each = blankTape(160);
            for (int b = 1; b <= 255; b++) {
                Checks.due("160 and byte " + b + " by " + shift, each.feed(0, 0, b << shift, 0, 0), NONE);
            }
            Checks.due("160 still", each.count(4), 160);
        }
        StickRace part = blankTape(158);
        Checks.due("158 and 3", part.feed('l', '1', ' ', 0, 0), NONE);
        Checks.due("nothing of it came", part.count(4), 158);
        Checks.due("158 and 2", part.feed('l', 0, 0, 0, '1'), 160);
        Checks.due("a STICK", part.text(1), 0);
        Checks.due("empty then", part.feed(0, 0, 0, 0, 0), 0);
    }

    private static void end() {
        Edge.of("Promise 3", "The TAPE has its first n bytes alone.");
        StickRace r = new StickRace();
        Checks.due("end(0) of an empty TAPE", r.end(0), true);
        Checks.feed(r, "l1,h2");
        Checks.due("end(5) of five", r.end(5), true);
        Checks.due("all five", r.fault(1), NONE);
        Checks.due("five", r.count(4), 5);
        Checks.due("end(4)", r.end(4), true);
        Checks.due("the first four", r.fault(1), 4);
        Checks.due("end(2)", r.end(2), true);
        Checks.feed(r, ",f9");
        Checks.due("what comes then stands behind them", r.text(1), 0);
        Checks.due("its FEATHER", r.stick(0, 2), 9);
        StickRace full = blankTape(160);
        Checks.due("end(160)", full.end(160), true);
        Checks.due("160", full.count(4), 160);
        Checks.due("end(1)", full.end(1), true);
        Checks.due("end(0)", full.end(0), true);
        Checks.due("none", full.count(4), 0);
        Edge.of("Promise 3", "False: n.");
        Checks.due("end(1) of an empty TAPE", new StickRace().end(1), false);
        for (int n : new int[] {-1, 6, 160, 161, MIN, MAX}) {
            StickRace five = new StickRace();
            Checks.feed(five, "l1,h2");
            Checks.due("end(" + n + ") of five", five.end(n), false);
            Checks.due("five still", five.count(4), 5);
            Checks.due("as they were", five.fault(1), NONE);
        }
        StickRace most = blankTape(160);
        Checks.due("end(161)", most.end(161), false);
        Checks.due("160 still", most.count(4), 160);
    }

    private static void fault() {
        Edge.of("Promise 4", "The FAULT of the TAPE as a BROOK (0), a STICK (1).");
        fault(0, "4444;44x4", 7);
        fault(1, "4444;44x4", 0);
        fault(0, "l1,h22", 0);
        fault(1, "l1,h22", 5);
        fault(0, FULL_BROOK + " ".repeat(59), NONE);
        fault(0, FULL_BROOK + " ".repeat(58) + "x", 159);
        Edge.of("Promise 4", "NONE: none.");
        fault(0, "4444;4444", NONE);
        fault(1, "l1", NONE);
        Edge.of("Promise 4", "-2: no such sort.");
        for (int sort : new int[] {-1, 2, -2, MIN, MAX}) {
            fault(sort, "", -2);
            fault(sort, "4444;4444", -2);
            fault(sort, "l1", -2);
        }
    }

    private static void text() {
        Edge.of("Promise 5", "The TAPE (empty then; if refused it stays) is one of these: its number.");
        StickRace r = new StickRace();
        Checks.feed(r, "4444;4444");
        Checks.due("refused as a STICK", r.text(1), NONE);
        Checks.due("it stays", r.count(4), 9);
        Checks.due("taken as a BROOK: its number", r.text(0), 0);
        Checks.due("empty then", r.count(4), 0);
        Checks.feed(r, "l2");
        Checks.due("refused as a BROOK", r.text(0), NONE);
        Checks.due("it stays", r.fault(1), NONE);
        Checks.due("taken as a STICK: its number", r.text(1), 0);
        Checks.due("empty then", r.count(4), 0);
        Checks.due("the next BROOK", Checks.brook(r, "o444;4444"), 1);
        Checks.due("the next STICK", Checks.stick(r, "l3"), 1);
        Checks.due("one STICK is as it was", r.stick(0, 0), 2);
        Checks.due("the other as it was told", r.stick(1, 0), 3);
        // What was not told is not left from a TEXT ahead.
        Checks.stick(r, "h9,f9");
        Checks.stick(r, "l1");
        Checks.due("HEAVY without h, behind one with it", r.stick(3, 1), 5);
        Checks.due("FEATHER without f, behind one with it", r.stick(3, 2), 0);
        Checks.brook(r, "oooo;@@@@;4444");
        Checks.brook(r, "4444;4444");
        Checks.due("no STONES of the one ahead", r.brook(3, 2), 0);
        Checks.due("no EDDIES of the one ahead", r.brook(3, 3), 0);
        Checks.due("no LANES of the one ahead", r.brook(3, 0), 2);
    }

    private static void textRefused() {
        Edge.of("Promise 5", "NONE: a FAULT, no such sort, there are so many.");
        StickRace r = new StickRace();
        Checks.due("an empty TAPE as a BROOK", r.text(0), NONE);
        Checks.due("an empty TAPE as a STICK", r.text(1), NONE);
        Checks.feed(r, "4444;4444");
        for (int sort : new int[] {-1, 2, MIN, MAX}) {
            Checks.due("sort " + sort, r.text(sort), NONE);
        }
        Checks.due("the TAPE stays", r.count(4), 9);
        for (int i = 0; i < 6; i++) {
            Checks.due("BROOK " + i, Checks.brook(r, "4444;444" + (i + 1)), i);
        }
        Checks.feed(r, "7777;7777");
        Checks.due("six there are", r.text(0), NONE);
        Checks.due("the TAPE stays", r.fault(0), NONE);
        Checks.due("the last BROOK is as it was", r.pace(5, 3, 1), 6);
        for (int i = 0; i < 10; i++) {
            Checks.due("STICK " + i, Checks.stick(r, "h" + i), i);
        }
        Checks.feed(r, "l5");
        Checks.due("ten there are", r.text(1), NONE);
        Checks.due("the TAPE stays", r.fault(1), NONE);
        Checks.due("the last STICK is as it was", r.stick(9, 0), 1);
    }

    private static void brook() {
        Edge.of("Promise 6", "Of a BROOK: 0 LANES, 1 CELLS, 2 STONES, 3 EDDIES.");
        StickRace r = new StickRace();
        String[] texts = {"4444;4444", "oooo;oooo", FULL_BROOK.replace('4', '@'), "o@o@9;@o1oo;44444",
            FULL_BROOK.replace('4', 'o')};
        int[][] due = {{2, 4, 0, 0}, {2, 4, 8, 0}, {6, 16, 0, 96}, {3, 5, 5, 3}, {6, 16, 96, 0}};
        for (int b = 0; b < texts.length; b++) {
            Checks.brook(r, texts[b]);
            for (int what = 0; what < 4; what++) {
                Checks.due("brook(" + b + ", " + what + ")", r.brook(b, what), due[b][what]);
            }
        }
        Edge.of("Promise 6", "NoSuchElementException: no such ones.");
        for (int what : new int[] {-1, 4, MIN, MAX}) {
            Checks.throwsNoSuchElement(r, 0, what);
            Checks.throwsNoSuchElement(r, 4, what);
        }
        for (int b : new int[] {-1, 5, 6, MIN, MAX}) {
            Checks.throwsNoSuchElement(r, b, 0);
            Checks.throwsNoSuchElement(r, b, 3);
        }
        Checks.brook(r, "4444;4444");
        int[] sixth = {2, 4, 0, 0};
        for (int what = 0; what < 4; what++) {
            Checks.due("the sixth, behind one of STONES alone: " + what, r.brook(5, what), sixth[what]);
        }
        Checks.throwsNoSuchElement(r, 6, 0);
        Checks.throwsNoSuchElement(new StickRace(), 0, 0);
    }

    private static void pace() {
        StickRace r = new StickRace();
        Edge.of("Promise 7", "PACE there of a CELL.");
        Checks.brook(r, "1239;o@44");
        int[] low = {1, 2, 3, 9, 1, 1, 4, 4};
        int[] high = {4, 5, 6, 12, 1, 4, 7, 7};
        for (int i = 0; i < 8; i++) {
            r.weather(1, 0);
            Checks.due("HIGH 0, CELL " + i, r.pace(0, i % 4, i / 4), low[i]);
            r.weather(1, 3);
            Checks.due("HIGH 3, CELL " + i, r.pace(0, i % 4, i / 4), high[i]);
        }
        Edge.of("Promise 7", "NONE: no such ones.");
        int[][] none = {{0, 4, 0}, {0, -1, 0}, {0, 0, 2}, {0, 0, -1}, {1, 0, 0}, {-1, 0, 0}, {0, 16, 0}, {0, 0, 6},
            {0, MIN, 0}, {0, MAX, 0}, {0, 0, MIN}, {0, 0, MAX}, {MIN, 0, 0}, {MAX, 0, 0}};
        for (int[] n : none) {
            Checks.due("pace(" + n[0] + ", " + n[1] + ", " + n[2] + ")", r.pace(n[0], n[1], n[2]), NONE);
        }
        Checks.due("of a new object", new StickRace().pace(0, 0, 0), NONE);
    }

    private static void stick() {
        Edge.of("Promise 8", "Of a STICK: 0 LENGTH, 1 HEAVY, 2 FEATHER.");
        StickRace r = new StickRace();
        String[] texts = {"l1,h0,f0", "l5,h9,f9", "f4", "h4", "l4"};
        int[][] due = {{1, 0, 0}, {5, 9, 9}, {1, 5, 4}, {1, 4, 0}, {4, 5, 0}};
        for (int s = 0; s < texts.length; s++) {
            Checks.stick(r, texts[s]);
            for (int what = 0; what < 3; what++) {
                Checks.due("stick(" + s + ", " + what + ")", r.stick(s, what), due[s][what]);
            }
        }
        Edge.of("Promise 8", "NONE: no such ones.");
        for (int bad : new int[] {-1, 3, 5, MIN, MAX}) {
            Checks.due("what " + bad, r.stick(0, bad), NONE);
        }
        for (int bad : new int[] {-1, 5, 10, MIN, MAX}) {
            Checks.due("STICK " + bad, r.stick(bad, 0), NONE);
        }
        for (int s = 5; s < 10; s++) {
            Checks.stick(r, "l2");
        }
        Checks.due("the tenth", r.stick(9, 0), 2);
        Checks.due("an eleventh", r.stick(10, 0), NONE);
    }

    private static void weather() {
        Edge.of("Promise 9", "WIND (what 0), HIGH (1), HOLD (2).");
        StickRace r = new StickRace();
        Checks.due("WIND", r.weather(0, -3), true);
        Checks.due("HIGH", r.weather(1, 2), true);
        Checks.due("HOLD", r.weather(2, 10), true);
        int[] due = {-3, 2, 10};
        for (int what = 0; what < 3; what++) {
            Checks.due("it is so, and no other one", r.count(6 + what), due[what]);
        }
        Edge.of("Promise 9", "False: no such ones, out of bounds.");
        for (int what : new int[] {-1, 3, MIN, MAX}) {
            Checks.due("weather(" + what + ", 0)", r.weather(what, 0), false);
            Checks.due("weather(" + what + ", 1)", r.weather(what, 1), false);
        }
        int[][] bad = {{0, -4}, {0, 4}, {1, -1}, {1, 4}, {2, -1}, {2, 11}, {0, MIN}, {0, MAX}, {1, MIN}, {1, MAX},
            {2, MIN}, {2, MAX}};
        for (int[] b : bad) {
            Checks.due("weather(" + b[0] + ", " + b[1] + ")", r.weather(b[0], b[1]), false);
        }
        for (int what = 0; what < 3; what++) {
            Checks.due("all stays", r.count(6 + what), due[what]);
        }
    }

    private static void can() {
        Edge.of("Promise 10", "Whether a STICK CAN lie (1, 0).");
        StickRace r = new StickRace();
        Checks.brook(r, "444o;4444;o444");
        Checks.stick(r, "l1");
        Checks.stick(r, "l3");
        int[][] due = {{0, 0, 0, 1}, {0, 3, 0, 0}, {0, 3, 2, 1}, {0, 0, 2, 0}, {1, 1, 0, 1}, {1, 2, 0, 1}, {1, 3, 0, 0},
            {1, 0, 0, 0}, {1, 1, 1, 0}, {1, 1, 2, 0}};
        for (int[] d : due) {
            Checks.due("can(0, " + d[0] + ", " + d[1] + ", " + d[2] + ")", r.can(0, d[0], d[1], d[2]), d[3]);
        }
        r.weather(1, 2);
        Checks.due("over STONES", r.can(0, 1, 3, 0), 1);
        Checks.due("out of the BROOK as before", r.can(0, 1, 1, 1), 0);
        Edge.of("Promise 10", "NONE: no such ones (x 0 .. CELLS less 1, y 0 .. LANES less 1).");
        int[][] none = {{0, 0, 4, 0}, {0, 0, -1, 0}, {0, 0, 0, 3}, {0, 0, 0, -1}, {1, 0, 0, 0}, {-1, 0, 0, 0},
            {0, 2, 0, 0}, {0, -1, 0, 0}, {0, 0, MIN, 0}, {0, 0, MAX, 0}, {0, 0, 0, MIN}, {0, 0, 0, MAX},
            {MIN, 0, 0, 0}, {MAX, 0, 0, 0},
            {0, MIN, 0, 0}, {0, MAX, 0, 0}};
        for (int[] n : none) {
            Checks.due("can(" + n[0] + ", " + n[1] + ", " + n[2] + ", " + n[3] + ")", r.can(n[0], n[1], n[2], n[3]), NONE);
        }
        Checks.due("the last CELL", r.can(0, 0, 3, 2), 1);
    }
}
