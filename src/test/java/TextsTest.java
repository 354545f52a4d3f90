/** Promises 1 to 10: a new object, the TAPE, FAULTS, BROOKS, STICKS, weather, where a STICK CAN lie. */
public final class TextsTest {
    private static final int NONE = Checks.NONE;

    public static void main(String[] args) {
        constants();
        newObject();
        feed();
        end();
        faultOfBrooks();
        faultOfSticks();
        text();
        brook();
        pace();
        stick();
        weather();
        can();
        Checks.finish("TextsTest");
    }

    private static void constants() {
        Checks.due("NONE", StickRace.NONE, -1);
        Checks.due("HIDDEN", StickRace.HIDDEN, -1000);
    }

    /** Promise 1. */
    private static void newObject() {
        StickRace r = new StickRace();
        int[] due = {0, 0, 0, 0, 0, NONE, 0, 0, 5};
        for (int what = 0; what < due.length; what++) {
            Checks.due("new: count " + what, r.count(what), due[what]);
        }
        Checks.throwsNoSuchElement(r, 0, 0);
        Checks.due("new: stick", r.stick(0, 0), NONE);
        Checks.due("new: agree", r.agree(), 0);
        Checks.due("new: lies", r.lies(0, 0), NONE);
        Checks.due("new: runner", r.runner(0, 0), NONE);
        Checks.due("new: trials", r.trials(1, 1, NONE), NONE);
        Checks.due("new: ladder", r.ladder(0, 1, 1, NONE), NONE);
    }

    /** Promise 2. */
    private static void feed() {
        StickRace r = new StickRace();
        Checks.due("nothing but 0", r.feed(0, 0, 0, 0, 0), 0);
        // The highest byte first: "44;4" with a 0 within is 44;4 still, so the ; stands at 2.
        Checks.due("0 left out", r.feed(0x34003400, 0x003B0034, 0, 0, 0), 4);
        Checks.due("order of bytes", r.fault(0), 2);
        Checks.due("a byte of 255 is kept", r.feed(0xFF, 0, 0, 0, 0), 5);
        r.end(0);
        Checks.due("order of numbers", r.feed('4', '4', '4', '4', ';'), 5);
        Checks.due("order of numbers: a BROOK so far", r.fault(0), 5);
        r.end(0);
        for (int i = 1; i <= 8; i++) {
            Checks.due("feed " + i, r.feed(0x20202020, 0x20202020, 0x20202020, 0x20202020, 0x20202020), 20 * i);
        }
        Checks.due("one more than 160", r.feed(0, 0, 0, 0, 'l'), NONE);
        Checks.due("the TAPE stays", r.count(4), 160);
        Checks.due("none more than 160", r.feed(0, 0, 0, 0, 0), 160);
        r.end(159);
        Checks.due("two more than 159", r.feed('l', 0, 0, 0, '1'), NONE);
        Checks.due("the TAPE stays at 159", r.count(4), 159);
        Checks.due("nothing of what was refused is there", r.fault(1), 159);
        Checks.due("two in the second number", r.feed(0, 0x010001, 0, 0, 0), NONE);
        Checks.due("two in the third number", r.feed(0, 0, 0x7F007F00, 0, 0), NONE);
        Checks.due("two in the fourth number", r.feed(0, 0, 0, 0xFFFF0000, 0), NONE);
        Checks.due("two in the fifth number", r.feed(0, 0, 0, 0, 0x80000001), NONE);
        Checks.due("the last that is taken", r.feed(0, 0, 'q', 0, 0), 160);
        Checks.due("it is the last", r.fault(1), 159);
        Checks.due("a byte of 1 is one too", r.feed(0, 0, 0, 1, 0), NONE);
    }

    /** Promise 3. */
    private static void end() {
        StickRace r = new StickRace();
        Checks.due("end 0 of none", r.end(0), true);
        Checks.due("end 1 of none", r.end(1), false);
        Checks.feed(r, "l1,h2");
        Checks.due("end 6", r.end(6), false);
        Checks.due("end -1", r.end(-1), false);
        Checks.due("end least", r.end(Integer.MIN_VALUE), false);
        Checks.due("refused ends change nothing", r.count(4), 5);
        Checks.due("end 5", r.end(5), true);
        Checks.due("all are there", r.count(4), 5);
        Checks.due("end 2", r.end(2), true);
        Checks.due("two are there", r.count(4), 2);
        Checks.due("end 3 then", r.end(3), false);
        Checks.due("the first two", r.text(1), 0);
    }

    private static void fault(int sort, String text, int due) {
        StickRace r = new StickRace();
        Checks.tape(r, text);
        Checks.due("fault " + sort + " of \"" + text + "\"", r.fault(sort), due);
        Checks.due("fault leaves the TAPE of \"" + text + "\"", r.count(4), text.length());
    }

    /** Promise 4. */
    private static void faultOfBrooks() {
        fault(0, "", 0);
        fault(0, "   ", 3);
        fault(0, "4444", 4);
        fault(0, "4444;", 5);
        fault(0, "4444;444", 8);
        fault(0, "4444;444 ", 9);
        fault(0, "4444;4444", NONE);
        fault(0, "19o@;o@91", NONE);
        fault(0, "  4 4 4 4 ; 4 4 4 4  ", NONE);
        fault(0, "4044;4444", 1);
        fault(0, "444O;4444", 3);
        fault(0, "4444:4444", 4);
        fault(0, ";4444", 0);
        fault(0, "444;444", 3);
        fault(0, "4444;44444", 9);
        fault(0, "44444;4444;", 10);
        fault(0, "44444;4444 ;", 11);
        fault(0, "4444;4444;", 10);
        fault(0, "4444;;", 5);
        fault(0, "4444;4444,", 9);
        fault(0, "4444;444" + (char) 200, 8);
        fault(0, "4444444444444444;4444444444444444", NONE);
        fault(0, "44444444444444444", 16);
        fault(0, "4444444444444444 4", 17);
        fault(0, "4444444444444444;44444444444444444", 33);
        fault(0, "1111;2222;3333;4444;5555;6666", NONE);
        fault(0, "1111;2222;3333;4444;5555;6666;", 29);
        fault(0, "1111;2222;3333;4444;5555;6666 ;7", 30);
        fault(0, "1111;2222;3333;4444;5555;6666 7", 30);
        fault(2, "4444;4444", -2);
        fault(-1, "4444;4444", -2);
    }

    /** Promise 4. */
    private static void faultOfSticks() {
        fault(1, "", 0);
        fault(1, "l", 1);
        fault(1, "l ", 2);
        fault(1, "l1", NONE);
        fault(1, "l5", NONE);
        fault(1, "l0", 1);
        fault(1, "l6", 1);
        fault(1, "l05", NONE);
        fault(1, "l00", 2);
        fault(1, "l06", 2);
        fault(1, "l15", 2);
        fault(1, "l0,", 1);
        fault(1, "l6 ", 1);
        fault(1, "l012", 3);
        fault(1, "l999", 3);
        fault(1, "h0", NONE);
        fault(1, "h9", NONE);
        fault(1, "h00", NONE);
        fault(1, "h10", 2);
        fault(1, "h100", 3);
        fault(1, "f9", NONE);
        fault(1, "f10", 2);
        fault(1, "f0009", 3);
        fault(1, "x1", 0);
        fault(1, "L1", 0);
        fault(1, "1", 0);
        fault(1, "l,", 1);
        fault(1, "lh", 1);
        fault(1, "l-1", 1);
        fault(1, "l1 2", 3);
        fault(1, "l1h2", 2);
        fault(1, "l1,", 3);
        fault(1, "l1, ", 4);
        fault(1, ",l1", 0);
        fault(1, "l1,,h2", 3);
        fault(1, "l1,l2", 3);
        fault(1, "h1,l2, h3", 7);
        fault(1, "l1,h2,f3", NONE);
        fault(1, "f3,h2,l1", NONE);
        fault(1, " l 1 , h 2 , f 3 ", NONE);
        fault(1, "l1,h2,f3x", 8);
        fault(1, "l1;h2", 2);
        // Behind all three letters a fourth ITEM is missing, or its letter was there, as the document tells of letters.
        fault(1, "l1,h2,f3,", 9);
        fault(1, "l1,h2,f3, h4", 10);
        fault(1, "h" + (char) 0xB2, 1);
    }

    /** Promise 5. */
    private static void text() {
        StickRace r = new StickRace();
        Checks.due("no TAPE", r.text(0), NONE);
        Checks.tape(r, "4444;4444");
        Checks.due("not a STICK", r.text(1), NONE);
        Checks.due("no such sort 2", r.text(2), NONE);
        Checks.due("no such sort -1", r.text(-1), NONE);
        Checks.due("refused: the TAPE stays", r.count(4), 9);
        Checks.due("refused: no STICK", r.count(1), 0);
        Checks.due("a BROOK", r.text(0), 0);
        Checks.due("empty then", r.count(4), 0);
        Checks.due("once alone", r.text(0), NONE);
        for (int i = 1; i < 6; i++) {
            Checks.due("BROOK " + i, Checks.brook(r, "111" + i + ";2222"), i);
        }
        Checks.due("a seventh BROOK", Checks.brook(r, "9999;9999"), NONE);
        Checks.due("its TAPE stays", r.count(4), 9);
        Checks.due("six BROOKS", r.count(0), 6);
        Checks.due("the last BROOK is as it was", r.pace(5, 3, 0), 5);
        for (int i = 0; i < 10; i++) {
            Checks.due("STICK " + i, Checks.stick(r, "h" + i), i);
        }
        Checks.due("an eleventh STICK", Checks.stick(r, "f1"), NONE);
        Checks.due("its TAPE stays too", r.count(4), 2);
        Checks.due("ten STICKS", r.count(1), 10);
        Checks.due("the last STICK is as it was", r.stick(9, 1), 9);
    }

    /** Promise 6. */
    private static void brook() {
        StickRace r = new StickRace();
        Checks.brook(r, "4o@44; o o @ 1 9 ;@@@@o");
        Checks.brook(r, "1234567891234567;ooooooooooooooo@");
        int[][] due = {{3, 5, 4, 6}, {2, 16, 15, 1}};
        for (int b = 0; b < 2; b++) {
            for (int what = 0; what < 4; what++) {
                Checks.due("brook " + b + " " + what, r.brook(b, what), due[b][what]);
            }
        }
        Checks.throwsNoSuchElement(r, 2, 0);
        Checks.throwsNoSuchElement(r, -1, 0);
        Checks.throwsNoSuchElement(r, 0, 4);
        Checks.throwsNoSuchElement(r, 0, -1);
    }

    /** Promise 7. */
    private static void pace() {
        StickRace r = new StickRace();
        Checks.brook(r, "19o@5;22222");
        int[][] due = {{1, 9, 1, 1, 5}, {2, 10, 1, 2, 6}, {3, 11, 1, 3, 7}, {4, 12, 1, 4, 8}};
        for (int high = 0; high <= 3; high++) {
            r.weather(1, high);
            for (int x = 0; x < 5; x++) {
                Checks.due("pace of " + x + " with HIGH " + high, r.pace(0, x, 0), due[high][x]);
            }
        }
        Checks.due("the other LANE", r.pace(0, 4, 1), 5);
        Checks.due("x 5", r.pace(0, 5, 0), NONE);
        Checks.due("x -1", r.pace(0, -1, 1), NONE);
        Checks.due("y 2", r.pace(0, 0, 2), NONE);
        Checks.due("y -1", r.pace(0, 0, -1), NONE);
        Checks.due("BROOK 1", r.pace(1, 0, 0), NONE);
        Checks.due("BROOK -1", r.pace(-1, 0, 0), NONE);
    }

    /** Promise 8. */
    private static void stick() {
        StickRace r = new StickRace();
        String[] texts = {"l3", "h0", "f9", "f1,l05,h09"};
        int[][] due = {{3, 5, 0}, {1, 0, 0}, {1, 5, 9}, {5, 9, 1}};
        for (int s = 0; s < texts.length; s++) {
            Checks.stick(r, texts[s]);
            for (int what = 0; what < 3; what++) {
                Checks.due("stick " + texts[s] + " " + what, r.stick(s, what), due[s][what]);
            }
        }
        Checks.due("STICK 4", r.stick(4, 0), NONE);
        Checks.due("STICK -1", r.stick(-1, 0), NONE);
        Checks.due("what 3", r.stick(0, 3), NONE);
        Checks.due("what -1", r.stick(0, -1), NONE);
    }

    /** Promise 9. */
    private static void weather() {
        StickRace r = new StickRace();
        int[] least = {-3, 0, 0};
        int[] most = {3, 3, 10};
        for (int what = 0; what < 3; what++) {
            for (int v = least[what]; v <= most[what]; v++) {
                Checks.due("weather " + what + " " + v, r.weather(what, v), true);
                Checks.due("it is so", r.count(6 + what), v);
            }
            Checks.due("too little", r.weather(what, least[what] - 1), false);
            Checks.due("too much", r.weather(what, most[what] + 1), false);
            Checks.due("it stays", r.count(6 + what), most[what]);
        }
        Checks.due("weather 3", r.weather(3, 0), false);
        Checks.due("weather -1", r.weather(-1, 0), false);
        for (int what = 0; what < 3; what++) {
            Checks.due("no other was changed", r.count(6 + what), most[what]);
        }
    }

    /** Promise 10. */
    private static void can() {
        StickRace r = new StickRace();
        Checks.brook(r, "4444;44o4;@444");
        Checks.stick(r, "l1");
        Checks.stick(r, "l2");
        Checks.stick(r, "l3");
        Checks.stick(r, "l4");
        Checks.due("l1 on a CELL", r.can(0, 0, 0, 2), 1);
        Checks.due("l1 on a STONE", r.can(0, 0, 2, 1), 0);
        Checks.due("l2 with a STONE below", r.can(0, 1, 2, 0), 0);
        Checks.due("l2 with a STONE above", r.can(0, 1, 2, 1), 0);
        Checks.due("l2 at the last two", r.can(0, 1, 1, 1), 1);
        Checks.due("l2 out of the BROOK", r.can(0, 1, 1, 2), 0);
        Checks.due("l3 on all LANES", r.can(0, 2, 3, 0), 1);
        Checks.due("l3 out of the BROOK", r.can(0, 2, 3, 1), 0);
        Checks.due("l4 is too long", r.can(0, 3, 0, 0), 0);
        r.weather(1, 1);
        Checks.due("HIGH 1: a STONE bars", r.can(0, 2, 2, 0), 0);
        r.weather(1, 2);
        Checks.due("HIGH 2: it does not", r.can(0, 2, 2, 0), 1);
        Checks.due("HIGH 2: too long still", r.can(0, 3, 2, 0), 0);
        Checks.due("x 4", r.can(0, 0, 4, 0), NONE);
        Checks.due("x -1", r.can(0, 0, -1, 0), NONE);
        Checks.due("y 3", r.can(0, 0, 0, 3), NONE);
        Checks.due("y -1", r.can(0, 0, 0, -1), NONE);
        Checks.due("BROOK 1", r.can(1, 0, 0, 0), NONE);
        Checks.due("STICK 4", r.can(0, 4, 0, 0), NONE);
        Checks.due("STICK -1", r.can(0, -1, 0, 0), NONE);
    }
}
