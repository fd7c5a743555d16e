/** The promises of the document, one by one, with answers that were worked out by hand from its words. */
public final class PromiseTest {
    private static int checks = 0;
    private static int wrong = 0;
    private static String promise = "";

    /** Two who meet on step 2: see the table at promise 8. */
    private static final String STAIR =
        "steps 6;keep 2;carpet 2 1;flat 0 0;flat 5 1;person 1 1 1;person 0 1 1;walk 0 0 0 3;walk 1 1 3 0;";
    /** One comes behind another one who treads no more: ghosts. */
    private static final String GHOSTS =
        "steps 4;keep 3;flat 0 0;flat 3 0;person 0 5 1;person 3 1 1;walk 0 0 0 1;walk 1 3 0 1;";
    private static final String SOUNDS = "heard 0 1 1 -;heard 0 2 1 1;heard 1 4 1 -;";
    /** One without a walk, no flats: nothing happens. */
    private static final String STILL = "person 4 2 3;";

    private static void due(String call, long got, long want) {
        checks++;
        if (got != want) {
            wrong++;
            System.out.println(promise + ": " + call + " answered " + got + ", due is " + want);
        }
    }

    private static void due(String call, boolean got, boolean want) {
        due(call, got ? 1 : 0, want ? 1 : 0);
    }

    private static void give(EchoStair x, String text) {
        for (int i = 0; i < text.length(); i += 20) {
            int[] five = new int[5];
            for (int j = 0; j < 20; j++) {
                int sign = i + j < text.length() ? text.charAt(i + j) : 0;
                five[j / 4] = five[j / 4] << 8 | sign;
            }
            x.feed(five[0], five[1], five[2], five[3], five[4]);
        }
        x.end(text.length());
    }

    private static int tell(EchoStair x, int sort, int at, String text) {
        x.end(0);
        give(x, text);
        return x.text(sort, at);
    }

    private static EchoStair with(String house) {
        EchoStair x = new EchoStair();
        due("text " + house, tell(x, 0, -1, house), 0);
        return x;
    }

    private static EchoStair with(String house, String reading) {
        EchoStair x = with(house);
        due("text " + reading, tell(x, 1, -1, reading), 0);
        return x;
    }

    private static void faulty(int sort, String text, int fault, int place) {
        EchoStair x = new EchoStair();
        int want = fault == 0 ? 0 : -1;
        due("text(" + text + ")", tell(x, sort, -1, text), want);
        due("fault(0) of " + text, x.fault(0), fault);
        due("fault(1) of " + text, x.fault(1), place);
        due("count behind " + text, x.count(sort), fault == 0 ? 1 : 0);
    }

    private static String times(int n, String text) {
        StringBuilder b = new StringBuilder();
        for (int i = 0; i < n; i++) {
            b.append(text);
        }
        return b.toString();
    }

    private static void newObject() {
        promise = "1 a new object";
        EchoStair x = new EchoStair();
        due("NONE", EchoStair.NONE, -1);
        due("count(0)", x.count(0), 0);
        due("count(1)", x.count(1), 0);
        due("again(0)", x.again(0), false);
        due("again(1)", x.again(1), false);
        due("again(2)", x.again(2), false);
        due("fault(0)", x.fault(0), 0);
        due("fault(1)", x.fault(1), -1);
        due("end(1)", x.end(1), -1);
        due("house(0, 0)", x.house(0, 0), -1);
        due("sound(0, -1, 0)", x.sound(0, -1, 0), -2);
    }

    private static void feed() {
        promise = "2 feed";
        EchoStair x = new EchoStair();
        for (int i = 1; i <= 30; i++) {
            due("feed " + i, x.feed(0x20202020, 0x0a0a0a0a, 0x20202020, 0x20202020, 0x20202020), 20 * i);
        }
        due("feed 31", x.feed(0, 0, 0, 0, 0), -1);
        due("a text of 600 blanks", x.text(0, -1), 0);
        due("feed behind text", x.feed(0x73746570, 0x73203320, 0x20202020, 0x20202020, 0x2020203b), 20);
        due("the highest byte first", x.text(0, 0), 0);
        due("steps 3", x.house(0, 0), 3);
        for (int i = 1; i <= 30; i++) {
            x.feed(0, 0, 0, 0, 0);
        }
        due("end(580)", x.end(580), 580);
        due("feed to 600", x.feed(0, 0, 0, 0, 0), 600);
        due("end(581)", x.end(581), 581);
        due("feed to 601", x.feed(0, 0, 0, 0, 0), -1);
        due("nothing came", x.end(582), -1);
        due("a byte above 127", tellBytes(x, 0xe9000000, 1), -1);
        due("its fault", x.fault(0), 1);
    }

    private static int tellBytes(EchoStair x, int number, int bytes) {
        x.end(0);
        x.feed(number, 0, 0, 0, 0);
        x.end(bytes);
        return x.text(0, 0);
    }

    private static void end() {
        promise = "3 end";
        EchoStair x = new EchoStair();
        due("end(0)", x.end(0), 0);
        due("end(-1)", x.end(-1), -1);
        x.feed(0, 0, 0, 0, 0);
        due("end(21)", x.end(21), -1);
        due("end(20)", x.end(20), 20);
        due("end(7)", x.end(7), 7);
        due("end(8)", x.end(8), -1);
        due("end(MIN)", x.end(Integer.MIN_VALUE), -1);
        due("end(MAX)", x.end(Integer.MAX_VALUE), -1);
        due("feed behind 7", x.feed(0, 0, 0, 0, 0), 27);
    }

    private static void text() {
        promise = "4 text";
        EchoStair x = new EchoStair();
        due("no such house", x.text(0, 0), -2);
        due("no such sort", x.text(2, -1), -2);
        due("no such sort", x.text(-1, -1), -2);
        due("first house", tell(x, 0, -1, "steps 3;"), 0);
        due("the tape is empty", x.end(1), -1);
        due("second house", tell(x, 0, -1, "steps 4;"), 1);
        due("first reading", tell(x, 1, -1, "heard 0 0 0 -;"), 0);
        due("a third house", tell(x, 0, -1, "steps 5;"), -2);
        due("the tape is empty behind one too many", x.end(1), -1);
        due("house 1 is as it was", x.house(1, 0), 4);
        due("in the place of 1", tell(x, 0, 1, "steps 5;"), 1);
        due("house 1", x.house(1, 0), 5);
        due("house 0", x.house(0, 0), 3);
        due("no reading 1", tell(x, 1, 1, ""), -2);
        due("at -2", x.text(0, -2), -2);
        due("at 2", x.text(0, 2), -2);
        due("at MIN", x.text(1, Integer.MIN_VALUE), -2);
        due("at MAX", x.text(1, Integer.MAX_VALUE), -2);
        due("a fault", tell(x, 0, 0, "steps 1;"), -1);
        due("the tape is empty behind a fault", x.end(1), -1);
        due("and the house is as it was", x.house(0, 0), 3);
        due("a fault is told", x.fault(0), 2);
        due("-2 takes it back", x.text(0, 7), -2);
        due("no fault", x.fault(0), 0);
        due("no place", x.fault(1), -1);
        due("an empty text", tell(x, 0, 0, ""), 0);
        due("is a house of 12 steps", x.house(0, 0), 12);
        due("an empty reading", tell(x, 1, 0, " \n "), 0);
        due("has no sounds", x.sound(0, -1, 0), 0);
    }

    private static void textRefused() {
        promise = "4 text that may not come";
        int[][] refused = {{0, 0}, {0, 1}, {0, -2}, {0, Integer.MAX_VALUE}, {1, 0}, {1, Integer.MIN_VALUE}, {2, -1}, {-1, 0}};
        EchoStair x = new EchoStair();
        for (int[] call : refused) {
            due("feed", x.feed(0, 0, 0, 0, 0), 20);
            due("text", x.text(call[0], call[1]), -2);
            due("the tape is empty", x.end(1), -1);
            due("no fault", x.fault(0), 0);
            due("no place", x.fault(1), -1);
        }
        due("no house", x.count(0), 0);
        due("no reading", x.count(1), 0);
        due("a reading", tell(x, 1, -1, "heard 0 0 0 -;"), 0);
        due("another reading", tell(x, 1, -1, ""), 1);
        due("one too many, with a fault in it", tell(x, 1, -1, "heard"), -2);
        due("no fault is told of it", x.fault(0), 0);
        due("the tape is empty", x.feed(0, 0, 0, 0, 0), 20);
        x.image(0);
        due("refused behind an image", x.text(0, 0), -2);
        due("again has the tape back", x.again(0), true);
        due("all of it", x.end(20), 20);
    }

    private static void faultOfTokens() {
        promise = "5 fault 1";
        faulty(0, "", 0, -1);
        faulty(0, "\n  steps 5\n;\n", 0, -1);
        faulty(0, "steps5;keep7;", 0, -1);
        faulty(0, "steps 05;keep 00;", 0, -1);
        faulty(0, "steps 5", 1, 7);
        faulty(0, "steps 5  ", 1, 9);
        faulty(0, "steps", 1, 5);
        faulty(0, "step 5;", 1, 0);
        faulty(0, "stepss 5;", 1, 0);
        faulty(0, "Steps 5;", 1, 0);
        faulty(0, "steps ! 5;", 1, 6);
        faulty(0, "steps! 5;", 1, 5);
        faulty(0, "steps\t5;", 1, 5);
        faulty(0, "steps 5;;", 1, 8);
        faulty(0, ";", 1, 0);
        faulty(0, "steps ;", 1, 6);
        faulty(0, "steps 5 5;", 1, 8);
        faulty(0, "steps -;", 1, 6);
        faulty(0, "steps 5;heard 0 0 0 -;", 1, 8);
        faulty(0, "keep 100;", 1, 5);
        faulty(0, "keep 007;", 1, 5);
        faulty(0, "walk 0 0 0;", 1, 10);
        faulty(0, "walk 0 0 0 1 - ;", 1, 13);
        faulty(0, "walk 0 0 0 1 100;", 1, 13);
        faulty(0, "person 0 1;", 1, 10);
        faulty(0, "change 0 1 2 3;", 1, 13);
        faulty(0, "carpet 1 ;", 1, 9);
        faulty(0, "flat 1 1 1;", 1, 9);
        faulty(0, "steps 5;abc", 1, 8);
        faulty(1, "heard 0 0 0 -;", 0, -1);
        faulty(1, "heard 0 0 0-;heard 5 99 9 9;", 0, -1);
        faulty(1, "heard 0 0 0;", 1, 11);
        faulty(1, "heard 0 0 - 0;", 1, 10);
        faulty(1, "heard 0 0 0 - -;", 1, 14);
        faulty(1, "heard 0 0 0 - 1;", 1, 14);
        faulty(1, "heard 0 0 0 --;", 1, 13);
        faulty(1, "steps 3;", 1, 0);
        // What stood behind the end is no part of the text.
        EchoStair x = new EchoStair();
        give(x, "keep 123;");
        x.end(7);
        due("keep 12", x.text(0, -1), -1);
        due("its end", x.fault(1), 7);
        give(x, "keepx");
        x.end(4);
        due("keep", x.text(0, -1), -1);
        due("its end", x.fault(1), 4);
        // A fault 1 anywhere goes ahead of all others.
        faulty(0, "steps 1;flat 99 99;x", 1, 19);
        faulty(0, times(7, "flat 1 0;") + "keep", 1, 67);
        faulty(0, "carpet 20 1;keep 1", 1, 18);
    }

    private static void faultOfNumbers() {
        promise = "5 fault 2";
        faulty(0, "steps 2;", 0, -1);
        faulty(0, "steps 24;", 0, -1);
        faulty(0, "steps 1;", 2, 6);
        faulty(0, "steps 25;", 2, 6);
        faulty(0, "keep 0;keep 99;", 0, -1);
        faulty(0, "carpet 11 9;", 0, -1);
        faulty(0, "carpet 24 0;", 2, 7);
        faulty(0, "carpet 0 10;", 2, 9);
        faulty(0, "flat 11 9;", 0, -1);
        faulty(0, "flat 24 0;", 2, 5);
        faulty(0, "flat 0 10;", 2, 7);
        faulty(0, "person 9 9 4;person 0 1 1;", 0, -1);
        faulty(0, "person 10 1 1;", 2, 7);
        faulty(0, "person 0 0 1;", 2, 9);
        faulty(0, "person 0 10 1;", 2, 9);
        faulty(0, "person 0 1 0;", 2, 11);
        faulty(0, "person 0 1 5;", 2, 11);
        faulty(0, "person 0 1 1;walk 0 60 11 11 0;", 0, -1);
        faulty(0, "walk 6 0 0 1;", 2, 5);
        faulty(0, "walk 0 61 0 1;", 2, 7);
        faulty(0, "walk 0 0 24 1;", 2, 9);
        faulty(0, "walk 0 0 0 24;", 2, 11);
        faulty(0, "walk 0 0 0 1 24;", 2, 13);
        faulty(0, "person 0 1 1;change 0 99 9;", 0, -1);
        faulty(0, "change 6 0 0;", 2, 7);
        faulty(0, "change 0 99 10;", 2, 12);
        faulty(1, "heard 6 0 0 -;", 2, 6);
        faulty(1, "heard 0 0 10 -;", 2, 10);
        faulty(1, "heard 0 0 0 10;", 2, 12);
        // The first by place.
        faulty(0, "steps 5;keep 1;steps 1;steps 99;", 2, 21);
    }

    private static void faultOfCounts() {
        promise = "5 fault 3";
        faulty(0, times(6, "flat 1 0;"), 0, -1);
        faulty(0, times(7, "flat 1 0;"), 3, 54);
        faulty(0, times(6, "person 0 1 1;"), 0, -1);
        faulty(0, times(7, "person 0 1 1;"), 3, 78);
        faulty(0, "person 0 1 1;" + times(8, "change 0 0 0;"), 0, -1);
        faulty(0, "person 0 1 1;" + times(9, "change 0 0 0;"), 3, 117);
        faulty(0, "person 0 1 1;walk 0 0 0 1 2 3 4 5 6 7 8;", 0, -1);
        faulty(0, "person 0 1 1;walk 0 0 0 1 2 3 4 5 6 7 8 9;", 3, 40);
        faulty(1, times(10, "heard 0 0 0 -;"), 0, -1);
        faulty(1, times(11, "heard 0 0 0 -;"), 3, 140);
        // At its first token, so ahead of a number of the same line that can't be.
        faulty(0, times(6, "flat 1 0;") + "flat 99 0;", 3, 54);
        // A line with a number that can't be counts all the same, but the number is ahead by place.
        faulty(0, times(5, "flat 1 0;") + "flat 1 99;flat 1 0;", 2, 52);
        faulty(0, times(6, "flat 1 0;") + "steps 1;flat 1 0;", 2, 60);
        // Of one place the least.
        faulty(0, "walk 0 0 0 1 2 3 4 5 6 7 8 24;", 2, 27);
        faulty(0, "walk 0 0 0 1 2 3 4 5 6 7 8 9 24;", 3, 27);
        // Counted ahead of fault 4.
        faulty(0, times(7, "flat 12 0;"), 3, 60);
    }

    private static void faultOfThings() {
        promise = "5 fault 4";
        faulty(0, "carpet 12 1;", 4, 12);
        faulty(0, "carpet 12 1;steps 13; ", 0, -1);
        faulty(0, "steps 24;carpet 23 1;steps 23;", 4, 30);
        faulty(0, "flat 12 1;\n", 4, 11);
        faulty(0, "walk 0 0 0 1;", 4, 13);
        faulty(0, "walk 0 0 0 1;person 0 1 1;", 0, -1);
        faulty(0, "person 0 1 1;walk 1 0 0 1;", 4, 26);
        faulty(0, "person 0 1 1;walk 0 0 12 1;", 4, 27);
        faulty(0, "person 0 1 1;walk 0 0 0 1 12;", 4, 29);
        faulty(0, "person 0 1 1;change 1 0 1;", 4, 26);
        faulty(0, "change 0 0 1;person 0 1 1;", 0, -1);
        // It was told of, even if a later walk struck it.
        faulty(0, "person 0 1 1;walk 0 0 0 12;walk 0 0 0 1;", 4, 40);
        faulty(1, "heard 5 0 0 -;", 0, -1);
        EchoStair x = new EchoStair();
        due("fault(2)", x.fault(2), -1);
        due("fault(-1)", x.fault(-1), -1);
        tell(x, 0, -1, "!");
        due("fault(0)", x.fault(0), 1);
        due("fault(1)", x.fault(1), 0);
        due("fault(2) behind a fault", x.fault(2), -1);
        due("fault(MIN)", x.fault(Integer.MIN_VALUE), -1);
    }

    private static void house() {
        promise = "6 house";
        EchoStair x = with("");
        due("steps", x.house(0, 0), 12);
        due("keep", x.house(0, 1), 60);
        due("flats", x.house(0, 2), 0);
        due("people", x.house(0, 3), 0);
        due("changes", x.house(0, 4), 0);
        due("carpet of 11", x.house(0, 111), 0);
        due("no step 12", x.house(0, 112), -1);
        due("no flat 0", x.house(0, 10), -1);
        due("no ear 0", x.house(0, 20), -1);
        due("no change 0", x.house(0, 30), -1);
        String six = "flat 1 9;flat 2 8;flat 3 7;flat 4 6;flat 5 5;flat 6 4;";
        String eight = "change 0 10 1;change 1 20 2;" + times(5, "change 0 30 3;") + "change 1 99 9;";
        tell(x, 0, 0, "steps 5;steps 24;keep 1;keep 7;carpet 3 4;carpet 3 5;carpet 23 9;person 1 1 1;person 1 1 1;" + six + eight);
        due("later steps strike", x.house(0, 0), 24);
        due("later keep strikes", x.house(0, 1), 7);
        due("later carpet strikes", x.house(0, 103), 5);
        due("carpet of 23", x.house(0, 123), 9);
        due("no step 24", x.house(0, 124), -1);
        due("flats", x.house(0, 2), 6);
        due("people", x.house(0, 3), 2);
        due("changes", x.house(0, 4), 8);
        for (int k = 0; k < 6; k++) {
            due("step of flat " + k, x.house(0, 10 + k), 1 + k);
            due("ear of flat " + k, x.house(0, 20 + k), 9 - k);
        }
        due("who of change 1", x.house(0, 31), 1);
        due("minute of change 1", x.house(0, 41), 20);
        due("shoe of change 1", x.house(0, 51), 2);
        due("who of change 7", x.house(0, 37), 1);
        due("minute of change 7", x.house(0, 47), 99);
        due("shoe of change 7", x.house(0, 57), 9);
        for (int what : new int[] {-1, 5, 9, 16, 19, 26, 29, 38, 39, 48, 58, 60, 99, 200, Integer.MIN_VALUE, Integer.MAX_VALUE}) {
            due("house(0, " + what + ")", x.house(0, what), -1);
        }
        due("no house 1", x.house(1, 0), -1);
        due("no house -1", x.house(-1, 0), -1);
        due("no house MIN", x.house(Integer.MIN_VALUE, 0), -1);
        tell(x, 0, 0, "");
        due("nothing of the former house stays", x.house(0, 103), 0);
    }

    private static void person() {
        promise = "7 person";
        EchoStair x = with("steps 10;person 4 5 3;person 6 7 1;walk 0 1 1 1;walk 0 5 2 2 9 9 4;change 0 7 8;change 0 3 1;"
            + "change 0 7 9;change 1 0 2;");
        int[] first = {4, 5, 3, 5, 2, 4, 10, 4};
        int[] second = {6, 7, 1, -1, -1, 0, -1, -1};
        for (int what = 0; what < 8; what++) {
            due("person(0, 0, " + what + ")", x.person(0, 0, what), first[what]);
            due("person(0, 1, " + what + ")", x.person(0, 1, what), second[what]);
        }
        due("goal 0", x.person(0, 0, 10), 2);
        due("goal 1", x.person(0, 0, 11), 9);
        due("goal 3", x.person(0, 0, 13), 4);
        due("no goal 4", x.person(0, 0, 14), -2);
        due("no goal without a walk", x.person(0, 1, 10), -2);
        due("shoe in minute 0", x.person(0, 0, 100), 4);
        due("shoe in minute 2", x.person(0, 0, 102), 4);
        due("shoe in minute 3", x.person(0, 0, 103), 1);
        due("shoe in minute 6", x.person(0, 0, 106), 1);
        due("shoe in minute 7, the last told", x.person(0, 0, 107), 9);
        due("shoe in minute 99", x.person(0, 0, 199), 9);
        due("shoe of 1 from the first minute", x.person(0, 1, 100), 2);
        for (int what : new int[] {-1, 8, 9, 18, 99, 200, Integer.MIN_VALUE, Integer.MAX_VALUE}) {
            due("person(0, 0, " + what + ")", x.person(0, 0, what), -2);
        }
        due("no person 2", x.person(0, 2, 0), -2);
        due("no person -1", x.person(0, -1, 0), -2);
        due("no house 1", x.person(1, 0, 0), -2);
        tell(x, 0, 0, "steps 24;person 0 1 1;walk 0 60 0 23 0 23;");
        due("to minute 99", x.person(0, 0, 6), 99);
        due("on its way down", x.person(0, 0, 7), 7);
        due("treads", x.tread(0, -1, 0), 40);
    }

    private static void tread() {
        promise = "8 tread";
        EchoStair x = with(STAIR);
        // who, step, minute, shoe, loud, echo, heard by, echo heard by
        int[][] all = {
            {0, 0, 0, 1, 2, -1, 1, 0},
            {0, 1, 1, 1, 2, -1, 1, 0},
            {1, 3, 1, 0, 1, -1, 2, 0},
            {0, 2, 2, 1, 1, -1, 0, 0},
            {1, 2, 2, 0, 0, 3, 0, 0},
            {0, 3, 3, 1, 2, 2, 2, 0},
            {1, 1, 3, 0, 1, 1, 1, 1},
            {1, 0, 4, 0, 1, -1, 1, 0}};
        due("treads", x.tread(0, -1, 0), all.length);
        for (int k = 0; k < all.length; k++) {
            for (int what = 0; what < 8; what++) {
                due("tread(0, " + k + ", " + what + ")", x.tread(0, k, what), all[k][what]);
            }
        }
        due("no tread 8", x.tread(0, 8, 0), -2);
        due("no tread -2", x.tread(0, -2, 0), -2);
        due("no tread MIN", x.tread(0, Integer.MIN_VALUE, 0), -2);
        due("what 8", x.tread(0, 0, 8), -2);
        due("what -1", x.tread(0, 0, -1), -2);
        due("k NONE, what 1", x.tread(0, -1, 1), -2);
        due("no house", x.tread(1, -1, 0), -2);
        EchoStair y = with("keep 0;steps 3;flat 0 0;person 0 9 1;person 0 9 1;walk 0 1 1 1;walk 1 1 1 0;");
        due("with keep 0 the same minute echoes", y.tread(0, 1, 5), 0);
        due("half of 9, cut, is 4", y.tread(0, 1, 7), 1);
        due("a goal on which he is is passed over", y.tread(0, -1, 0), 3);
        due("treads of nobody", with(STILL).tread(0, -1, 0), 0);
        EchoStair z = with("steps 24;flat 10 2;person 0 4 1;person 0 9 4;walk 0 0 4 4;walk 1 0 3 3;change 0 0 0;carpet 4 9;");
        due("carpet 9 swallows 4", z.tread(0, 0, 4), 0);
        due("what is not loud is not heard", z.tread(0, 0, 6), 0);
        due("far 7 is not above 2 and 9", z.tread(0, 1, 6), 1);
        tell(z, 0, 0, "steps 24;flat 10 2;person 0 4 1;person 0 5 4;walk 0 0 3 3;walk 1 1 4 4;");
        due("far 7 is above 2 and 4", z.tread(0, 0, 6), 0);
        due("far 6 is not above 2 and 5", z.tread(0, 1, 6), 1);
    }

    private static void where() {
        promise = "9 where";
        EchoStair x = with("steps 10;person 0 1 3;person 0 1 1;walk 0 5 2 2 9 9 4;");
        int[] on = {-1, -1, -1, -1, -1, 2, 5, 8, 9, 6, 4, 4, 4};
        for (int t = 0; t < on.length; t++) {
            due("where(0, 0, " + t + ")", x.where(0, 0, t), on[t]);
        }
        due("at the end", x.where(0, 0, 99), 4);
        due("without a walk", x.where(0, 1, 50), -1);
        due("minute 100", x.where(0, 0, 100), -2);
        due("minute -1", x.where(0, 0, -1), -2);
        due("no person 2", x.where(0, 2, 0), -2);
        due("no house 1", x.where(1, 0, 0), -2);
        due("minute MAX", x.where(0, 0, Integer.MAX_VALUE), -2);
    }

    private static void note() {
        promise = "10 note";
        EchoStair x = with(GHOSTS);
        due("notes of 0", x.note(0, 0, -1, 0), 4);
        due("ghosts of 0", x.note(0, 0, -1, 1), 2);
        due("notes of 1", x.note(0, 1, -1, 0), 4);
        due("ghosts of 1", x.note(0, 1, -1, 1), 1);
        int[][] all = {{0, 0, -1, 0}, {1, 0, -1, 0}, {2, 3, 0, 1}, {3, 3, 0, 1}};
        int[][] far = {{0, 0, -1, 0}, {1, 0, -1, 0}, {2, 3, -1, 0}, {3, 3, 0, 1}};
        for (int k = 0; k < 4; k++) {
            for (int what = 0; what < 4; what++) {
                due("note(0, 0, " + k + ", " + what + ")", x.note(0, 0, k, what), all[k][what]);
                due("note(0, 1, " + k + ", " + what + ")", x.note(0, 1, k, what), far[k][what]);
            }
        }
        due("no note 4", x.note(0, 0, 4, 0), -2);
        due("no note -2", x.note(0, 0, -2, 0), -2);
        due("what 4", x.note(0, 0, 0, 4), -2);
        due("what -1", x.note(0, 0, 0, -1), -2);
        due("k NONE, what 2", x.note(0, 0, -1, 2), -2);
        due("no flat 2", x.note(0, 2, -1, 0), -2);
        due("no flat -1", x.note(0, -1, -1, 0), -2);
        due("no house 1", x.note(1, 0, -1, 0), -2);
        EchoStair y = with("steps 2;flat 0 0;carpet 0 1;person 7 2 1;person 0 1 1;walk 0 0 0 1;walk 1 1 0 0;");
        due("heard by its echo alone", y.note(0, 0, -1, 0), 3);
        due("its tread", y.note(0, 0, 2, 0), 2);
        due("its shoe is not heard", y.note(0, 0, 2, 1), -1);
        due("the echo's shoe", y.note(0, 0, 2, 2), 7);
        due("its maker still trod in that minute", y.note(0, 0, 2, 3), 0);
        tell(y, 0, 0, "steps 2;flat 0 0;carpet 0 1;person 7 2 1;person 0 1 1;walk 0 0 0 1;walk 1 2 0 0;change 0 1 3;");
        due("a minute later it is a ghost", y.note(0, 0, 2, 3), 1);
        due("with the shoe of that minute", y.note(0, 0, 2, 2), 7);
        tell(y, 0, 0, "keep 2;" + "steps 2;flat 0 0;person 7 2 1;person 0 1 1;walk 0 0 0 1;walk 1 3 0 0;");
        due("no echo behind keep", y.note(0, 0, -1, 1), 0);
    }

    private static void ends() {
        promise = "11 ends";
        EchoStair x = with(STAIR);
        due("higher", x.ends(0, 0), 1);
        due("lower", x.ends(0, 1), 2);
        due("unheard", x.ends(0, 2), 0);
        due("what 3", x.ends(0, 3), -1);
        due("what -1", x.ends(0, -1), -1);
        due("no house", x.ends(1, 0), -1);
        EchoStair y = with("steps 5;carpet 0 9;flat 0 0;person 0 9 1;person 0 1 1;person 0 3 1;person 1 1 1;"
            + "walk 0 0 0 0;walk 1 0 2 4 2;walk 3 0 0 1 0;");
        due("nobody ends higher", y.ends(0, 0), 0);
        due("nobody ends lower", y.ends(0, 1), 0);
        // 0 treads on the carpet alone, 1 from step 2 on, 2 has no walk, 3 is heard on step 1.
        due("no tread heard", y.ends(0, 2), 7);
        EchoStair z = with("steps 24;person 0 1 1;walk 0 60 0 23 0;");
        due("higher at minute 99", z.ends(0, 0), 1);
        due("without flats nobody is heard", z.ends(0, 2), 1);
    }

    private static void home() {
        promise = "12 home";
        EchoStair x = with("steps 5;keep 9;carpet 2 1;flat 2 0;person 0 1 2;person 0 1 1;");
        due("two by two over the carpet", x.home(0, 0, 0, 4, 0, 1, 0), 2);
        due("first on 2", x.home(0, 0, 0, 4, 0, 1, 10), 2);
        due("then on 4", x.home(0, 0, 0, 4, 0, 1, 11), 4);
        due("no third", x.home(0, 0, 0, 4, 0, 1, 12), -1);
        due("one by one is heard", x.home(0, 1, 0, 4, 0, 1, 0), -1);
        due("and has no row", x.home(0, 1, 0, 4, 0, 1, 10), -1);
        due("by no flats", x.home(0, 1, 0, 4, 0, 0, 0), 4);
        due("of several the first", x.home(0, 0, 0, 3, 99, 0, 10), 1);
        due("of several the first, down", x.home(0, 0, 3, 0, 99, 0, 10), 1);
        due("there already", x.home(0, 1, 3, 3, 5, 1, 0), 0);
        due("there already, no row", x.home(0, 1, 3, 3, 5, 1, 10), -1);
        for (int what : new int[] {-1, 1, 2, 9, 70, Integer.MIN_VALUE, Integer.MAX_VALUE}) {
            due("what " + what, x.home(0, 0, 0, 4, 0, 1, what), -1);
        }
        due("no flat 1", x.home(0, 0, 0, 4, 0, 2, 0), -1);
        due("flats NONE", x.home(0, 0, 0, 4, 0, -1, 0), -1);
        due("no person 2", x.home(0, 2, 0, 4, 0, 1, 0), -1);
        due("no step 5", x.home(0, 0, 0, 5, 0, 1, 0), -1);
        due("no step -1", x.home(0, 0, -1, 4, 0, 1, 0), -1);
        due("minute 100", x.home(0, 0, 0, 4, 100, 1, 0), -1);
        due("minute -1", x.home(0, 0, 0, 4, -1, 1, 0), -1);
        due("no house", x.home(1, 0, 0, 4, 0, 1, 0), -1);
        homeAndEchoes();
    }

    private static void homeAndEchoes() {
        EchoStair x = with("steps 2;keep 3;carpet 1 1;flat 1 0;person 0 1 1;person 0 9 1;walk 0 0 1 1;walk 1 0 1 1;");
        due("he waits till the echo is gone", x.home(0, 0, 0, 1, 0, 1, 0), 4);
        due("he stays", x.home(0, 0, 0, 1, 0, 1, 12), 0);
        due("and treads in minute 4", x.home(0, 0, 0, 1, 0, 1, 13), 1);
        due("his own walk is not made", x.home(0, 0, 0, 1, 4, 1, 0), 1);
        tell(x, 0, 0, "steps 2;keep 0;carpet 1 1;flat 1 0;person 0 9 1;person 0 1 1;walk 0 1 1 1;");
        due("a tread of the same minute by a lower number echoes", x.home(0, 1, 0, 1, 0, 1, 0), 2);
        tell(x, 0, 0, "steps 2;keep 0;carpet 1 1;flat 1 0;person 0 1 1;person 0 9 1;walk 1 1 1 1;");
        due("that of a higher number is behind", x.home(0, 0, 0, 1, 0, 1, 0), 1);
        tell(x, 0, 0, "steps 2;keep 99;carpet 1 1;flat 1 0;person 0 1 1;person 0 9 1;walk 1 0 1 1;");
        due("61 minutes are too many", x.home(0, 0, 0, 1, 39, 1, 0), -1);
        due("60 are not", x.home(0, 0, 0, 1, 40, 1, 0), 60);
        due("the last of 60", x.home(0, 0, 0, 1, 40, 1, 69), 1);
        due("the last but one", x.home(0, 0, 0, 1, 40, 1, 68), 0);
        tell(x, 0, 0, "steps 3;carpet 1 3;carpet 2 3;flat 2 0;person 2 2 1;change 0 8 1;");
        due("he waits for the softer shoe", x.home(0, 0, 0, 2, 5, 1, 0), 4);
        due("first staying", x.home(0, 0, 0, 2, 5, 1, 11), 0);
        due("then going", x.home(0, 0, 0, 2, 5, 1, 12), 1);
        tell(x, 0, 0, "steps 3;keep 9;carpet 1 1;flat 2 0;person 0 1 2;person 0 2 1;person 0 3 1;walk 1 0 1 1;walk 2 0 0 0;");
        due("half of 1, cut, is not loud", x.home(0, 0, 0, 1, 0, 1, 0), 1);
        due("half of 3, cut, is 1, which is far off", x.home(0, 0, 1, 0, 0, 1, 0), 1);
        due("a house told anew", tell(x, 0, 0, "steps 3;person 2 2 1;"), 0);
        due("is planned anew", x.home(0, 0, 0, 2, 5, 0, 0), 2);
        tell(x, 0, 0, "steps 3;keep 9;flat 1 0;carpet 1 2;person 0 2 1;");
        due("his own treads give no echo", x.home(0, 0, 0, 1, 0, 1, 0), 1);
    }

    private static void thief() {
        promise = "13 thief";
        EchoStair x = with(STAIR);
        due("once heard", x.thief(0, 1, 1, 3, 10, 0), 1);
        due("in two minutes", x.thief(0, 1, 1, 3, 10, 1), 2);
        due("first 2", x.thief(0, 1, 1, 3, 10, 10), 2);
        due("then 3", x.thief(0, 1, 1, 3, 10, 11), 3);
        due("in the other's tread", x.thief(0, 1, 0, 3, 0, 0), 0);
        due("minutes", x.thief(0, 1, 0, 3, 0, 1), 3);
        due("step 1", x.thief(0, 1, 0, 3, 0, 10), 1);
        due("step 2", x.thief(0, 1, 0, 3, 0, 11), 2);
        due("step 3", x.thief(0, 1, 0, 3, 0, 12), 3);
        due("no further", x.thief(0, 1, 0, 3, 0, 13), -1);
        due("there already", x.thief(0, 1, 4, 4, 0, 0), 0);
        due("there already, minutes", x.thief(0, 1, 4, 4, 0, 1), 0);
        for (int what : new int[] {-1, 2, 9, 70, Integer.MIN_VALUE, Integer.MAX_VALUE}) {
            due("what " + what, x.thief(0, 1, 0, 3, 0, what), -1);
        }
        due("no person", x.thief(0, 2, 0, 3, 0, 0), -1);
        due("no step", x.thief(0, 1, 0, 6, 0, 0), -1);
        due("minute 100", x.thief(0, 1, 0, 3, 100, 0), -1);
        due("no house", x.thief(1, 1, 0, 3, 0, 0), -1);
        // A home by all flats is not a thief's way, though all else is the same.
        due("home by all flats", x.home(0, 1, 1, 3, 10, 3, 0), -1);
        due("thief again", x.thief(0, 1, 1, 3, 10, 0), 1);
        EchoStair y = with("steps 3;keep 0;flat 2 0;person 0 2 2;person 0 2 1;walk 1 30 1 2;");
        due("he waits to be covered", y.thief(0, 0, 0, 2, 0, 0), 0);
        due("till minute 31", y.thief(0, 0, 0, 2, 0, 1), 31);
        due("and not for 61 minutes", y.thief(0, 0, 0, 2, 32, 0), 1);
        due("but goes at once", y.thief(0, 0, 0, 2, 32, 1), 1);
        tell(y, 0, 0, "steps 2;flat 0 0;person 0 9 1;person 0 9 1;walk 1 1 1 1;");
        due("covered by the very first tread", y.thief(0, 0, 0, 1, 0, 0), 0);
        due("from the other step", y.thief(0, 0, 1, 1, 0, 1), 0);
        due("from the first one again", y.thief(0, 0, 0, 1, 0, 1), 1);
        due("in another minute", y.thief(0, 0, 0, 1, 1, 0), 1);
        due("back, uncovered", y.thief(0, 0, 1, 0, 1, 0), 1);
        EchoStair z = with("steps 12;flat 6 9;person 0 9 4;");
        due("fewest treads", z.thief(0, 0, 0, 9, 0, 0), 3);
        due("the first by rows", z.thief(0, 0, 0, 9, 0, 10), 1);
        due("then", z.thief(0, 0, 0, 9, 0, 11), 5);
    }

    private static void apart() {
        promise = "14 apart";
        EchoStair x = with(GHOSTS);
        due("both are mixed", x.apart(0, 0), 2);
        due("shoe of 0", x.apart(0, 10), 0);
        due("shoe of 1", x.apart(0, 11), 1);
        due("no person 2", x.apart(0, 12), -1);
        for (int what : new int[] {-1, 1, 9, 16, Integer.MIN_VALUE, Integer.MAX_VALUE}) {
            due("what " + what, x.apart(0, what), -1);
        }
        due("no house", x.apart(1, 0), -1);
        due("nobody", with("").apart(0, 0), 0);
        due("one alone", with(STILL).apart(0, 0), 1);
        // Flat 0 hears 0 and 1, flat 1 hears 2 and 3, flat 2 hears 1 and 2 and 4: a chain with a triangle.
        EchoStair y = with("steps 24;flat 0 0;flat 20 0;flat 10 0;" + times(5, "person 0 1 4;") + "person 0 1 1;"
            + "walk 0 0 0 0;walk 1 0 0 10;walk 2 0 10 20;walk 3 0 20 20;walk 4 0 10 10;");
        int[] worn = {0, 1, 0, 1, 2, 0};
        due("three", y.apart(0, 0), 3);
        for (int p = 0; p < 6; p++) {
            due("shoe of " + p, y.apart(0, 10 + p), worn[p]);
        }
        EchoStair z = with("flat 0 0;" + times(6, "person 0 1 1;") + "walk 0 0 0 0;walk 1 0 0 0;walk 2 0 0 0;"
            + "walk 3 0 0 0;walk 4 0 0 0;walk 5 0 0 0;");
        due("six who are all mixed", z.apart(0, 0), 6);
        due("the last has the sixth", z.apart(0, 15), 5);
        // An echo alone mixes nobody: 1 is not loud on the carpet.
        EchoStair e = with("steps 2;flat 0 0;carpet 0 1;person 7 2 1;person 0 1 1;walk 0 0 0 1;walk 1 1 0 0;");
        due("by treads, not by echoes", e.apart(0, 0), 1);
    }

    private static void worth() {
        promise = "15 worth";
        EchoStair x = with(GHOSTS);
        due("1 thicker", x.worth(0, 0, 1), 0);
        due("2 thicker", x.worth(0, 0, 2), 1);
        due("2 thicker on step 1", x.worth(0, 1, 2), 0);
        due("4 thicker", x.worth(0, 0, 4), 3);
        due("9 thicker", x.worth(0, 0, 9), 4);
        due("on a step without treads", x.worth(0, 3, 9), 0);
        due("best of several", x.worth(0, -1, 9), 0);
        due("thicker 0", x.worth(0, 0, 0), -2);
        due("thicker 10", x.worth(0, 0, 10), -2);
        due("best, thicker 10", x.worth(0, -1, 10), -2);
        due("no step 4", x.worth(0, 4, 1), -2);
        due("no step -2", x.worth(0, -2, 1), -2);
        due("no house", x.worth(1, 0, 1), -2);
        EchoStair y = with("steps 4;flat 0 0;flat 3 9;carpet 2 5;person 5 6 1;walk 0 0 1 3;");
        due("up to 9 in all", y.worth(0, 2, 9), 0);
        due("best is step 3", y.worth(0, -1, 9), 3);
        due("nothing is worth anything", with(STILL).worth(0, -1, 1), 0);
    }

    private static void sound() {
        promise = "16 sound";
        EchoStair x = new EchoStair();
        tell(x, 1, -1, "heard 5 99 9 8;heard 1 2 3 -;");
        int[][] all = {{5, 99, 9, 8}, {1, 2, 3, -1}};
        due("sounds", x.sound(0, -1, 0), 2);
        for (int k = 0; k < 2; k++) {
            for (int what = 0; what < 4; what++) {
                due("sound(0, " + k + ", " + what + ")", x.sound(0, k, what), all[k][what]);
            }
        }
        due("k NONE, what 1", x.sound(0, -1, 1), -2);
        due("what 4", x.sound(0, 0, 4), -2);
        due("what -1", x.sound(0, 0, -1), -2);
        due("no sound 2", x.sound(0, 2, 0), -2);
        due("no sound -2", x.sound(0, -2, 0), -2);
        due("no reading 1", x.sound(1, -1, 0), -2);
        due("no reading MAX", x.sound(Integer.MAX_VALUE, -1, 0), -2);
    }

    private static void makers() {
        promise = "17 makers";
        EchoStair x = with(STAIR, SOUNDS);
        due("of 0", x.makers(0, 0, 0), 1);
        due("of 1", x.makers(0, 0, 1), 1);
        due("of 2", x.makers(0, 0, 2), 1);
        due("no lie", x.makers(0, 0, -1), 0);
        due("no sound 3", x.makers(0, 0, 3), -2);
        due("no sound -2", x.makers(0, 0, -2), -2);
        due("no reading", x.makers(0, 1, 0), -2);
        due("no house", x.makers(1, 0, 0), -2);
        // Two of shoe 1 at first, one of whom changes to 2 in minute 5; flat 3 is not there.
        tell(x, 0, 0, "steps 2;flat 0 0;person 1 1 1;person 1 3 1;change 1 5 2;");
        tell(x, 1, 0, "heard 0 4 1 -;heard 0 5 1 -;heard 0 5 2 -;heard 0 5 2 1;heard 0 5 2 2;heard 3 4 1 -;heard 0 4 9 -;");
        int[] bits = {3, 1, 2, 2, 0, 0, 0};
        for (int k = 0; k < bits.length; k++) {
            due("makers of " + k, x.makers(0, 0, k), bits[k]);
        }
        due("lies", x.makers(0, 0, -1), 1 << 4 | 1 << 5 | 1 << 6);
        // Half of loud 1 is not loud.
        tell(x, 0, 0, "steps 2;flat 0 9;person 1 1 1;person 0 1 1;");
        tell(x, 1, 0, "heard 0 0 1 0;heard 0 0 1 1;");
        due("an echo that is not loud", x.makers(0, 0, 0), 0);
        due("an echo of his own shoe", x.makers(0, 0, 1), 1);
    }

    private static void track() {
        promise = "18 track";
        EchoStair x = with(STAIR, SOUNDS);
        due("of 0", x.track(0, 0, 0), 2);
        due("of 1, who made none: one way", x.track(0, 0, 1), 1);
        due("no person 2", x.track(0, 0, 2), -1);
        due("no person -1", x.track(0, 0, -1), -1);
        due("no reading", x.track(0, 1, 0), -1);
        due("no house", x.track(1, 0, 0), -1);
        tell(x, 0, 0, "steps 24;flat 12 9;person 9 9 4;");
        tell(x, 1, 0, "heard 0 90 9 -;heard 0 80 9 -;heard 0 70 9 -;heard 0 60 9 -;heard 0 50 9 -;heard 0 40 9 -;"
            + "heard 0 30 9 -;heard 0 20 9 -;heard 0 10 9 -;heard 0 0 9 -;");
        due("24 steps to the tenth", x.track(0, 0, 0), 63403380965376L);
        tell(x, 1, 0, "heard 0 3 9 -;heard 0 3 9 -;heard 0 3 9 -;");
        due("in one minute on one step", x.track(0, 0, 0), 24);
        tell(x, 0, 0, "steps 4;flat 0 9;person 9 9 2;");
        tell(x, 1, 0, "heard 0 4 9 -;heard 0 3 9 -;");
        due("two steps a minute at most", x.track(0, 0, 0), 14);
        tell(x, 1, 0, "heard 0 4 9 -;heard 1 3 9 -;");
        due("no way", x.track(0, 0, 0), 0);
    }

    private static void spots() {
        promise = "19 spots";
        EchoStair x = with(STAIR, SOUNDS);
        due("of 0", x.spots(0, 0, 0, 0), 3);
        due("of 1", x.spots(0, 0, 0, 1), 2);
        due("of 2", x.spots(0, 0, 0, 2), 8);
        due("sure", x.spots(0, 0, 0, -1), 2);
        due("not his shoe", x.spots(0, 0, 1, 0), 0);
        due("nothing sure", x.spots(0, 0, 1, -1), 0);
        due("no sound 3", x.spots(0, 0, 0, 3), -2);
        due("no sound -2", x.spots(0, 0, 0, -2), -2);
        due("no person", x.spots(0, 0, 2, 0), -2);
        due("no reading", x.spots(0, 1, 0, 0), -2);
        due("no house", x.spots(1, 0, 0, 0), -2);
        tell(x, 1, 0, "heard 0 1 1 -;heard 1 3 1 -;");
        due("the first is sure", x.spots(0, 0, 0, 0), 2);
        due("and the second", x.spots(0, 0, 0, 1), 8);
        due("both", x.spots(0, 0, 0, -1), 2);
        tell(x, 1, 0, "heard 1 4 1 -;heard 0 1 1 -;heard 0 2 1 1;");
        due("by minutes, not by numbers", x.spots(0, 0, 0, 0), 8);
        tell(x, 1, 0, "heard 0 1 1 -;heard 1 1 1 -;");
        due("none, if there is no way", x.spots(0, 0, 0, 0), 0);
        due("nothing is sure then", x.spots(0, 0, 0, -1), 0);
    }

    private static void drawn() {
        promise = "20 drawn";
        EchoStair x = with("steps 3;keep 0;flat 0 0;flat 2 9;person 0 1 1;");
        int[][] all = {{1, 100, 39, 67, 1, 28, 39}, {-5, 30, 10, 15, 2, 5, 10}, {1, 50, 20, 38, 0, 18, 20},
            {7, 0, 0, 0, 0, 0, 0}, {Integer.MAX_VALUE, 100, 38, 63, 2, 25, 38}};
        for (int[] a : all) {
            String call = "drawn " + a[0] + " " + a[1] + ": ";
            due(call + "treads", x.drawn(0, a[0], a[1], 0), a[2]);
            due(call + "notes", x.drawn(0, a[0], a[1], 1), a[3]);
            due(call + "end", x.drawn(0, a[0], a[1], 10), a[4]);
            due(call + "flat 0", x.drawn(0, a[0], a[1], 20), a[5]);
            due(call + "flat 1", x.drawn(0, a[0], a[1], 21), a[6]);
        }
        for (int what : new int[] {-1, 2, 9, 11, 16, 22, 26, 30, Integer.MIN_VALUE, Integer.MAX_VALUE}) {
            due("what " + what, x.drawn(0, 1, 50, what), -1);
        }
        due("k 101", x.drawn(0, 1, 101, 0), -1);
        due("k -1", x.drawn(0, 1, -1, 0), -1);
        due("no house", x.drawn(1, 1, 50, 0), -1);
        EchoStair y = with("steps 5;person 0 1 1;person 0 1 3;walk 0 0 4 4;");
        due("two", y.drawn(0, 1, 50, 0), 43);
        due("end of 0", y.drawn(0, 1, 50, 10), 1);
        due("end of 1", y.drawn(0, 1, 50, 11), 4);
        due("without flats", y.drawn(0, 1, 50, 1), 0);
    }

    private static void ring() {
        promise = "21 ring";
        EchoStair x = with(GHOSTS);
        int[] rings = {1, 1, 2, 2};
        for (int k = 0; k < 4; k++) {
            due("ring of " + k, x.ring(0, k), rings[k]);
        }
        due("longest", x.ring(0, -1), 2);
        due("no tread 4", x.ring(0, 4), -1);
        due("no tread -2", x.ring(0, -2), -1);
        due("no house", x.ring(1, -1), -1);
        due("no treads", with(STILL).ring(0, -1), -1);
        EchoStair y = with("steps 2;keep 2;person 0 1 1;walk 0 0 0 1 0 1 0;");
        // He treads on 0 in minutes 0, 2 and 4.
        due("its echo's echo", y.ring(0, 4), 3);
        tell(y, 0, 0, "steps 2;keep 1;person 0 1 1;walk 0 0 0 1 0 1 0;");
        due("none behind keep", y.ring(0, 4), 1);
    }

    private static void meet() {
        promise = "22 meet";
        EchoStair x = with(STAIR);
        due("meet", x.meet(0, 0, 1, false), 2);
        due("meet, the other way round", x.meet(0, 1, 0, false), 2);
        due("pass", x.meet(0, 0, 1, true), 1);
        due("both are one", x.meet(0, 1, 1, false), -1);
        due("both are one, pass", x.meet(0, 1, 1, true), -1);
        due("no person 2", x.meet(0, 0, 2, true), -1);
        due("no person -1", x.meet(0, -1, 0, false), -1);
        due("no house", x.meet(1, 0, 1, true), -1);
        EchoStair y = with("steps 9;person 0 1 2;person 0 1 1;person 0 1 1;walk 0 0 0 8 0;walk 1 2 1 6;");
        // 0: 0 2 4 6 8 6 4 2 0; 1 from minute 2 on: 1 2 3 4 5 6 6. They pass without meeting, in minute 6.
        due("never on one step", y.meet(0, 0, 1, false), -1);
        due("pass once", y.meet(0, 0, 1, true), 1);
        due("one without a walk: never", y.meet(0, 0, 2, false), -1);
        due("one without a walk: no pass", y.meet(0, 0, 2, true), 0);
        tell(y, 0, 0, "steps 9;person 0 1 1;person 0 1 1;walk 0 0 4 4;walk 1 0 3 5 3 5 4;");
        // 0 stays on 4; 1: 3 4 5 4 3 4 5 4. Above where it was not so a minute ahead: minutes 2, 4 and 6.
        due("who stays is still there", y.meet(0, 0, 1, false), 1);
        due("above again and again", y.meet(0, 0, 1, true), 3);
        tell(y, 0, 0, "person 0 1 1;person 0 1 1;walk 0 0 4 4;walk 1 0 4 5;");
        due("in the first minute", y.meet(0, 0, 1, false), 0);
        tell(y, 0, 0, "person 0 1 1;person 0 1 1;walk 0 60 11 0 11;walk 1 60 0 0;");
        due("in minute 71", y.meet(0, 0, 1, false), 71);
    }

    private static void look() {
        promise = "23 look";
        EchoStair x = with(GHOSTS);
        due("hollow", x.look(0, 0), 95);
        due("busy, of several the least", x.look(0, 1), 0);
        due("copy", x.look(0, 2), 0);
        due("tells of 0", x.look(0, 10), 2);
        due("tells of 1", x.look(0, 11), 2);
        due("hire of one who is heard anyway", x.look(0, 30), -1);
        for (int what : new int[] {-1, 3, 9, 12, 16, 22, 32, 42, 50, Integer.MIN_VALUE, Integer.MAX_VALUE}) {
            due("what " + what, x.look(0, what), -2);
        }
        due("no house", x.look(1, 0), -2);
        EchoStair y = with(STILL);
        due("hollow of nothing", y.look(0, 0), 100);
        due("busy of nothing", y.look(0, 1), -1);
        due("hire without a walk", y.look(0, 30), 9);
        due("late without a walk", y.look(0, 40), -1);
        due("move of the stair's flat 0", with(STAIR).look(0, 20), 5);
        EchoStair b = with("steps 5;flat 0 9;person 0 1 1;walk 0 30 0 2 1;");
        due("busy", b.look(0, 1), 1);
        due("hollow behind 33", b.look(0, 0), 66);
        tell(b, 0, 0, "steps 24;flat 12 9;person 9 9 1;walk 0 0 0 23 0 23 0;");
        due("not quite hollow", b.look(0, 0), 7);
        tell(b, 0, 0, "steps 24;flat 12 9;person 9 9 1;walk 0 0 0 23 0 23 0 23 0;");
        due("never hollow", b.look(0, 0), 0);
        tell(b, 0, 0, "steps 24;flat 12 9;person 9 9 1;person 9 9 1;walk 0 10 0 0;walk 1 59 0 0;");
        due("hollow between", b.look(0, 0), 48);
        lookAtPeople();
    }

    private static void lookAtPeople() {
        EchoStair x = with("person 1 2 1;person 1 2 4;person 1 3 1;person 1 2 2;change 3 99 2;");
        due("one couple", x.look(0, 2), 1);
        tell(x, 0, 0, "person 1 2 1;person 2 2 4;person 1 2 1;change 1 0 1;");
        due("three couples by a change", x.look(0, 2), 3);
        tell(x, 0, 0, "person 1 2 1;person 2 2 1;change 1 1 1;");
        due("no couple, for minute 0 alone", x.look(0, 2), 0);
        tell(x, 0, 0, "steps 2;carpet 0 1;flat 0 0;person 9 1 1;walk 0 0 0 0;");
        due("hire of the softest shoe", x.look(0, 30), 0);
        tell(x, 0, 0, "steps 2;carpet 0 9;flat 0 0;person 9 1 1;walk 0 0 0 0;change 0 0 9;");
        due("hire on a carpet", x.look(0, 30), 8);
        tell(x, 0, 0, "steps 2;carpet 0 1;flat 0 0;person 1 1 1;walk 0 0 0 0;change 0 10 0;");
        due("late: in the softer shoe", x.look(0, 40), 10);
        tell(x, 0, 0, "steps 2;keep 5;carpet 0 1;flat 0 0;person 0 1 1;person 0 9 1;walk 0 0 0 0;walk 1 0 0 0;");
        due("late: ahead of the other one, in the same minute", x.look(0, 40), 0);
        tell(x, 0, 0, "steps 2;keep 5;carpet 0 1;flat 0 0;person 0 9 1;person 0 1 1;walk 0 0 0 0;walk 1 0 0 0;");
        due("late: behind the echo", x.look(0, 41), 6);
        // He goes 0 1 0, unheard from minute 10 on; the other one treads on 0 in minute 10. If both tread there in that
        // minute, the higher number is the later one, whose echo he wakes when he comes back.
        tell(x, 0, 0, "steps 2;keep 5;carpet 0 1;carpet 1 1;flat 0 9;person 5 1 1;person 0 9 1;change 0 10 0;"
            + "walk 0 0 0 1 0;walk 1 10 0 0;");
        due("late: the other one is behind in the same minute", x.look(0, 40), 16);
        tell(x, 0, 0, "steps 2;keep 5;carpet 0 1;carpet 1 1;flat 0 9;person 0 9 1;person 5 1 1;change 1 10 0;"
            + "change 1 16 5;walk 1 0 0 1 0;walk 0 10 0 0;");
        due("late: his own tread is the later one", x.look(0, 41), 10);
        tell(x, 0, 0, "steps 24;flat 0 9;person 9 9 1;walk 0 0 0 23 0 23;");
        due("late: the last minute cuts most", x.look(0, 40), 60);
        tell(x, 0, 0, "steps 24;flat 3 1;person 0 1 4;walk 0 0 6 6;");
        due("move: the least of the unheard ones", x.look(0, 20), 0);
        tell(x, 0, 0, "steps 24;flat 3 1;person 0 1 1;walk 0 0 0 3;");
        due("move: behind all that is heard", x.look(0, 20), 6);
        tell(x, 0, 0, "steps 4;flat 0 9;person 1 1 1;person 1 1 1;walk 0 0 0 3;walk 1 0 3 0;change 0 2 4;");
        due("tells: each shoe once", x.look(0, 10), 2);
    }

    private static void count() {
        promise = "24 count";
        EchoStair x = with("");
        due("houses", x.count(0), 1);
        due("readings", x.count(1), 0);
        tell(x, 0, -1, "");
        tell(x, 1, -1, "");
        tell(x, 0, -1, "");
        tell(x, 0, 1, "");
        due("houses", x.count(0), 2);
        due("readings", x.count(1), 1);
        due("sort 2", x.count(2), -2);
        due("sort -1", x.count(-1), -2);
        due("sort MIN", x.count(Integer.MIN_VALUE), -2);
    }

    private static void image() {
        promise = "25 image";
        EchoStair x = new EchoStair();
        due("image(3)", x.image(3), false);
        due("image(-1)", x.image(-1), false);
        due("image(MIN)", x.image(Integer.MIN_VALUE), false);
        due("image(0)", x.image(0), true);
        due("image(2)", x.image(2), true);
        due("there is no image 1", x.again(1), false);
        tell(x, 0, -1, "steps 7;");
        due("image(2) anew", x.image(2), true);
        due("again(0)", x.again(0), true);
        due("it is as it was", x.count(0), 0);
        due("again(2)", x.again(2), true);
        due("the later image 2", x.house(0, 0), 7);
    }

    private static void again() {
        promise = "26 again";
        EchoStair x = with(STAIR, SOUNDS);
        tell(x, 0, -1, "steps 9 9;");
        give(x, "keep 5;");
        x.image(0);
        due("home of the stair", x.home(0, 0, 3, 0, 10, 2, 0), 3);
        tell(x, 0, 0, GHOSTS);
        tell(x, 0, -1, STILL);
        tell(x, 1, -1, "");
        x.image(1);
        due("treads of the ghosts", x.tread(0, -1, 0), 4);
        due("home of the ghosts", x.home(0, 0, 3, 0, 10, 2, 0), -1);
        due("again(0)", x.again(0), true);
        due("houses", x.count(0), 1);
        due("readings", x.count(1), 1);
        due("sounds", x.sound(0, -1, 0), 3);
        due("the fault, too", x.fault(0), 1);
        due("its place, too", x.fault(1), 8);
        due("treads of the stair", x.tread(0, -1, 0), 8);
        due("home of the stair again", x.home(0, 0, 3, 0, 10, 2, 0), 3);
        due("the tape, too", x.end(8), -1);
        due("all of it", x.text(0, 0), 0);
        due("is read", x.house(0, 1), 5);
        due("again(1), which stayed", x.again(1), true);
        due("houses", x.count(0), 2);
        due("treads of the ghosts", x.tread(0, -1, 0), 4);
        due("again(0), which stayed, too", x.again(0), true);
        due("keep of the stair", x.house(0, 1), 2);
        due("again(2)", x.again(2), false);
        due("again(3)", x.again(3), false);
        due("again(-1)", x.again(-1), false);
        due("again(MAX)", x.again(Integer.MAX_VALUE), false);
        due("nothing changed", x.house(0, 1), 2);
    }

    public static void main(String[] args) {
        newObject();
        feed();
        end();
        text();
        textRefused();
        faultOfTokens();
        faultOfNumbers();
        faultOfCounts();
        faultOfThings();
        house();
        person();
        tread();
        where();
        note();
        ends();
        home();
        thief();
        apart();
        worth();
        sound();
        makers();
        track();
        spots();
        drawn();
        ring();
        meet();
        look();
        count();
        image();
        again();
        System.out.println(checks + " answers, " + wrong + " not as due");
        if (wrong != 0) {
            System.exit(1);
        }
    }
}
