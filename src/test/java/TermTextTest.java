/**
 * Terms, 1, of the document: every sentence that names a boundary case of the texts has a test of its own here, in
 * the document's order. The words of the sentence stand first in each test.
 */
public final class TermTextTest {
    private static final int HOUSE = 0;
    private static final int READING = 1;
    private static final int NONE = -1;

    private static int checks = 0;
    private static int wrong = 0;
    private static int sentences = 0;
    private static String sentence = "";

    private static void says(String words) {
        sentences++;
        sentence = words;
    }

    private static void due(String call, long got, long want) {
        checks++;
        if (got != want) {
            wrong++;
            System.out.println("'" + sentence + "': " + call + " answered " + got + ", due is " + want);
        }
    }

    private static void give(EchoStair x, String text) {
        for (int i = 0; i < text.length(); i += 20) {
            int[] five = new int[5];
            for (int j = 0; j < 20; j++) {
                int sign = i + j < text.length() ? text.charAt(i + j) : 0;
                five[j / 4] = five[j / 4] << 8 | sign;
            }
            x.feed(five[0], five[1], five[2], five[3], five[4]);
        }
        x.end(text.length());
    }

    /** The answer of text() for a further one of the sort. */
    private static int tell(EchoStair x, int sort, String text) {
        give(x, text);
        return x.text(sort, NONE);
    }

    private static EchoStair fine(int sort, String text) {
        EchoStair x = new EchoStair();
        due("text of " + text, tell(x, sort, text), 0);
        due("fault(0) of " + text, x.fault(0), 0);
        due("fault(1) of " + text, x.fault(1), NONE);
        due("count behind " + text, x.count(sort), 1);
        return x;
    }

    /** A text with a fault, whose place is marked by '^', which is no part of the text. */
    private static void fault(int sort, int fault, String marked) {
        int place = marked.indexOf('^');
        String text = marked.substring(0, place) + marked.substring(place + 1);
        EchoStair x = new EchoStair();
        due("text of " + marked, tell(x, sort, text), NONE);
        due("fault(0) of " + marked, x.fault(0), fault);
        due("fault(1) of " + marked, x.fault(1), place);
        due("count behind " + marked, x.count(sort), 0);
    }

    private static String times(int n, String text) {
        StringBuilder b = new StringBuilder();
        for (int i = 0; i < n; i++) {
            b.append(text);
        }
        return b.toString();
    }

    private static void steps() {
        says("A HOUSE has STEPS, 2 .. 24 (12 at first)");
        due("steps at first", fine(HOUSE, "").house(0, 0), 12);
        due("steps 2", fine(HOUSE, "steps 2;").house(0, 0), 2);
        due("steps 24", fine(HOUSE, "steps 24;").house(0, 0), 24);
        fault(HOUSE, 2, "steps ^1;");
        fault(HOUSE, 2, "steps ^0;");
        fault(HOUSE, 2, "steps ^25;");
        fault(HOUSE, 2, "steps ^99;");
    }

    private static void stepsFromNoughtOn() {
        says("from 0 on, the lowest first");
        EchoStair x = fine(HOUSE, "steps 3;carpet 0 1;carpet 2 3;person 0 1 1;walk 0 0 0 2;");
        due("carpet of the first", x.house(0, 100), 1);
        due("carpet of the last", x.house(0, 102), 3);
        due("none behind it", x.house(0, 103), NONE);
        due("from 0 to 2 is higher", x.ends(0, 0), 1);
        due("and not lower", x.ends(0, 1), 0);
    }

    private static void keep() {
        says("KEEP, 0 .. 99 minutes (60)");
        due("keep at first", fine(HOUSE, "").house(0, 1), 60);
        due("keep 0", fine(HOUSE, "keep 0;").house(0, 1), 0);
        due("keep 99", fine(HOUSE, "keep 99;").house(0, 1), 99);
        fault(HOUSE, 1, "keep ^100;");
    }

    private static void carpets() {
        says("of each STEP a CARPET, 0 .. 9 thick (0)");
        EchoStair x = fine(HOUSE, "steps 24;");
        for (int s = 0; s < 24; s++) {
            due("carpet of " + s + " at first", x.house(0, 100 + s), 0);
        }
        due("carpet 0", fine(HOUSE, "carpet 0 0;").house(0, 100), 0);
        due("carpet 9", fine(HOUSE, "carpet 11 9;").house(0, 111), 9);
        fault(HOUSE, 2, "carpet 0 ^10;");
        fault(HOUSE, 2, "carpet 0 ^99;");
    }

    private static void flats() {
        says("FLATS, at most 6, from 0 on: a STEP, an EAR, 0 .. 9");
        EchoStair x = fine(HOUSE, "flat 0 0;flat 1 1;flat 2 2;flat 3 3;flat 4 4;flat 11 9;");
        due("six of them", x.house(0, 2), 6);
        due("step of 0", x.house(0, 10), 0);
        due("ear of 0", x.house(0, 20), 0);
        due("step of 5", x.house(0, 15), 11);
        due("ear of 5", x.house(0, 25), 9);
        due("none at first", fine(HOUSE, "").house(0, 2), 0);
        fault(HOUSE, 3, times(6, "flat 1 0;") + "^flat 1 0;");
        fault(HOUSE, 2, "flat 0 ^10;");
        fault(HOUSE, 2, "flat 0 ^99;");
    }

    private static void people() {
        says("PEOPLE, at most 6, from 0 on: a SHOE, 0 .. 9, a WEIGHT, 1 .. 9, a RISE, 1 .. 4");
        EchoStair x = fine(HOUSE, "person 0 1 1;" + times(4, "person 5 5 2;") + "person 9 9 4;");
        due("six of them", x.house(0, 3), 6);
        int[] least = {0, 1, 1};
        int[] most = {9, 9, 4};
        for (int what = 0; what < 3; what++) {
            due("the least, " + what, x.person(0, 0, what), least[what]);
            due("the most, " + what, x.person(0, 5, what), most[what]);
        }
        due("none at first", fine(HOUSE, "").house(0, 3), 0);
        fault(HOUSE, 3, times(6, "person 0 1 1;") + "^person 0 1 1;");
        fault(HOUSE, 2, "person ^10 1 1;");
        fault(HOUSE, 2, "person 0 ^0 1;");
        fault(HOUSE, 2, "person 0 ^10 1;");
        fault(HOUSE, 2, "person 0 1 ^0;");
        fault(HOUSE, 2, "person 0 1 ^5;");
    }

    private static void walks() {
        says("each may have a WALK: a minute, 0 .. 60, a STEP, 1 to 8 GOALS: STEPS");
        EchoStair x = fine(HOUSE, "person 0 1 1;person 0 1 1;person 0 1 1;walk 0 0 0 1;walk 1 60 11 0 1 2 3 4 5 6 11;");
        due("minute 0", x.person(0, 0, 3), 0);
        due("step 0", x.person(0, 0, 4), 0);
        due("one goal", x.person(0, 0, 5), 1);
        due("minute 60", x.person(0, 1, 3), 60);
        due("step 11", x.person(0, 1, 4), 11);
        due("eight goals", x.person(0, 1, 5), 8);
        due("the first of them", x.person(0, 1, 10), 0);
        due("the eighth", x.person(0, 1, 17), 11);
        due("one without", x.person(0, 2, 3), NONE);
        fault(HOUSE, 2, "person 0 1 1;walk 0 ^61 0 1;");
        fault(HOUSE, 2, "person 0 1 1;walk 0 ^99 0 1;");
        fault(HOUSE, 1, "person 0 1 1;walk 0 0 0^;");
        fault(HOUSE, 3, "person 0 1 1;walk 0 0 0 1 2 3 4 5 6 7 8 ^9;");
    }

    private static void changes() {
        says("CHANGES, at most 8, from 0 on: one, a minute, 0 .. 99, a SHOE");
        EchoStair x = fine(HOUSE, "person 0 1 1;person 0 1 1;change 0 0 0;" + times(6, "change 0 5 5;") + "change 1 99 9;");
        due("eight of them", x.house(0, 4), 8);
        due("one of 0", x.house(0, 30), 0);
        due("minute of 0", x.house(0, 40), 0);
        due("shoe of 0", x.house(0, 50), 0);
        due("one of 7", x.house(0, 37), 1);
        due("minute of 7", x.house(0, 47), 99);
        due("shoe of 7", x.house(0, 57), 9);
        due("none at first", fine(HOUSE, "").house(0, 4), 0);
        fault(HOUSE, 3, "person 0 1 1;" + times(8, "change 0 0 0;") + "^change 0 0 0;");
        fault(HOUSE, 1, "person 0 1 1;change 0 ^100 0;");
        fault(HOUSE, 2, "person 0 1 1;change 0 0 ^10;");
    }

    private static void sounds() {
        says("A READING has SOUNDS, at most 10, from 0 on: a FLAT, 0 .. 5, a minute, 0 .. 99, a SHOE, the ECHO's SHOE or none");
        EchoStair x = fine(READING, "heard 0 0 0 0;" + times(8, "heard 1 2 3 -;") + "heard 5 99 9 9;");
        due("ten of them", x.sound(0, NONE, 0), 10);
        int[][] told = {{0, 0, 0, 0}, {1, 2, 3, NONE}, {5, 99, 9, 9}};
        int[] numbers = {0, 1, 9};
        for (int i = 0; i < 3; i++) {
            for (int what = 0; what < 4; what++) {
                due("sound " + numbers[i] + ", " + what, x.sound(0, numbers[i], what), told[i][what]);
            }
        }
        due("none at first", fine(READING, "").sound(0, NONE, 0), 0);
        fault(READING, 3, times(10, "heard 0 0 0 -;") + "^heard 0 0 0 -;");
        fault(READING, 2, "heard ^6 0 0 -;");
        fault(READING, 1, "heard 0 ^100 0 -;");
        fault(READING, 2, "heard 0 0 ^10 -;");
        fault(READING, 2, "heard 0 0 0 ^10;");
    }

    private static void tape() {
        says("THE TAPE has at most 600 bytes");
        due("all 600 are read", fine(HOUSE, times(592, " ") + "steps 3;").house(0, 0), 3);
        fault(HOUSE, 1, times(599, " ") + "^!");
        fault(HOUSE, 1, times(593, " ") + "steps 3^");
        fault(HOUSE, 4, times(588, "\n") + "carpet 12 1;^");
    }

    private static void tokensAsLongAsTheyGo() {
        says("TOKENS, as long as they go");
        due("one goal of two digits", fine(HOUSE, "person 0 1 1;walk 0 0 0 10;").person(0, 0, 5), 1);
        due("two goals of one", fine(HOUSE, "person 0 1 1;walk 0 0 0 1 0;").person(0, 0, 5), 2);
        due("nothing between", fine(HOUSE, "steps3;keep7;").house(0, 1), 7);
        fine(READING, "heard 0 0 0-;heard5 99 9 9;");
        fault(HOUSE, 1, "^stepskeep 3;");
        fault(HOUSE, 1, "^stepss 3;");
        fault(HOUSE, 1, "^step 3;");
        fault(HOUSE, 1, "^st eps 3;");
        fault(HOUSE, 1, "person 0 1^;");
    }

    private static void blanks() {
        says("blanks (10, 32) between");
        due("blanks everywhere", fine(HOUSE, " \n steps \n\n 3 \n ; \n ").house(0, 0), 3);
        fine(HOUSE, "\n");
        fine(READING, " ");
        int[] others = {0, 9, 11, 13, 31, 33, 128 + 10, 128 + 32, 255};
        for (int sign : others) {
            fault(HOUSE, 1, "steps ^" + (char) sign + " 3;");
            fault(READING, 1, "^" + (char) sign);
        }
    }

    private static void words() {
        says("words, rows of letters a .. z");
        int[] others = {'A', 'S', 'Z', 'a' - 1, 'z' + 1, 128 + 's', '_'};
        for (int sign : others) {
            fault(HOUSE, 1, "steps^" + (char) sign + "3;");
            fault(HOUSE, 1, "^" + (char) sign + "teps 3;");
        }
        fault(HOUSE, 1, "^a 3;");
        fault(HOUSE, 1, "^z 3;");
        fault(HOUSE, 1, "^stepsz 3;");
        fault(HOUSE, 1, "^stepsa 3;");
        for (String word : new String[] {"steps", "keep", "carpet", "flat", "person", "walk", "change"}) {
            misspelt(HOUSE, word);
        }
        misspelt(READING, "heard");
    }

    /** With another letter in any place, without one, and with one more, it is no word of any text. */
    private static void misspelt(int sort, String word) {
        for (int i = 0; i < word.length(); i++) {
            fault(sort, 1, "^" + word.substring(0, i) + "x" + word.substring(i + 1) + " 2 2 2 2;");
            fault(sort, 1, "^" + word.substring(0, i) + word.substring(i + 1) + " 2 2 2 2;");
        }
        fault(sort, 1, "^" + word + word + " 2 2 2 2;");
    }

    private static void numbers() {
        says("NUMBERS, 1 or 2 digits");
        due("1 digit", fine(HOUSE, "keep 9;").house(0, 1), 9);
        due("2 digits", fine(HOUSE, "keep 90;").house(0, 1), 90);
        due("a nought ahead", fine(HOUSE, "keep 09;").house(0, 1), 9);
        due("two noughts", fine(HOUSE, "keep 00;").house(0, 1), 0);
        fault(HOUSE, 1, "keep ^;");
        fault(HOUSE, 1, "keep ^009;");
        fault(HOUSE, 1, "keep 9^/;");
        fault(HOUSE, 1, "keep 9^:;");
        fault(HOUSE, 1, "keep ^-9;");
        fault(HOUSE, 1, "keep ^+9;");
    }

    private static void signsOfOneByte() {
        says("- and ; one byte each");
        fault(READING, 1, "heard 0 0 0 -^-;");
        fault(READING, 1, "heard 0 0 0 -;^;");
        fault(HOUSE, 1, "steps 3;^;");
        fault(HOUSE, 1, "^;");
        fault(HOUSE, 1, "^-");
        fine(READING, "heard 0 0 0 - ;");
    }

    /** A line with as many numbers as it should have, one fewer, one more, and what is no number in each place. */
    private static void line(int sort, String word, int numbers, boolean goesOn) {
        String ahead = sort == HOUSE ? "person 0 1 1;" : "";
        StringBuilder right = new StringBuilder(ahead + word);
        for (int i = 0; i < numbers; i++) {
            String so = right.toString();
            fault(sort, 1, so + " ^;");
            fault(sort, 1, so + "^");
            fault(sort, 1, so + " ^a;");
            fault(sort, 1, so + " ^100;");
            if (sort == HOUSE || i < 3) {
                fault(sort, 1, so + " ^-;");
            }
            right.append(word.equals("person") && i > 0 || word.equals("steps") ? " 2" : " 0");
        }
        String so = right.toString();
        fine(sort, so + ";");
        fault(sort, 1, so + "^");
        fault(sort, 1, so + " \n^");
        fault(sort, 1, so + " ^a;");
        fault(sort, 1, so + " ^-;");
        if (goesOn) {
            fine(sort, so + " 0;");
        } else {
            fault(sort, 1, so + " ^0;");
        }
    }

    private static void textOfAHouse() {
        says("A HOUSE's text: {(('steps' | 'keep') NUMBER | 'carpet' NUMBER NUMBER | 'flat' NUMBER NUMBER"
            + " | 'person' NUMBER NUMBER NUMBER | 'walk' NUMBER NUMBER NUMBER NUMBER {NUMBER}"
            + " | 'change' NUMBER NUMBER NUMBER) ';'}");
        fine(HOUSE, "");
        line(HOUSE, "steps", 1, false);
        line(HOUSE, "keep", 1, false);
        line(HOUSE, "carpet", 2, false);
        line(HOUSE, "flat", 2, false);
        line(HOUSE, "person", 3, false);
        line(HOUSE, "walk", 4, true);
        line(HOUSE, "change", 3, false);
        fault(HOUSE, 1, "^heard 0 0 0 -;");
        fault(HOUSE, 1, "keep 3;^heard 0 0 0 -;");
        fault(HOUSE, 1, "^3;");
    }

    private static void valuesOfAHouse() {
        says("(carpet: a STEP, how thick; flat: STEP, EAR; person: SHOE, WEIGHT, RISE; walk: who, minute, STEP, GOALS;"
            + " change: who, minute, SHOE");
        EchoStair x = fine(HOUSE, "carpet 3 4;flat 5 6;person 7 8 2;person 1 1 1;walk 1 2 3 4 5;change 1 6 7;");
        int[][] told = {{103, 4}, {104, 0}, {10, 5}, {20, 6}, {30, 1}, {40, 6}, {50, 7}};
        for (int[] one : told) {
            due("house(0, " + one[0] + ")", x.house(0, one[0]), one[1]);
        }
        int[] first = {7, 8, 2, NONE, NONE, 0};
        int[] second = {1, 1, 1, 2, 3, 2};
        for (int what = 0; what < 6; what++) {
            due("person(0, 0, " + what + ")", x.person(0, 0, what), first[what]);
            due("person(0, 1, " + what + ")", x.person(0, 1, what), second[what]);
        }
        due("goal 0", x.person(0, 1, 10), 4);
        due("goal 1", x.person(0, 1, 11), 5);
    }

    private static void stepsAndPeopleOfTexts() {
        says("STEPS are 0 .. 23, PEOPLE 0 .. 5");
        String six = "steps 24;" + times(6, "person 0 1 1;");
        fine(HOUSE, six + "carpet 0 1;carpet 23 1;flat 0 1;flat 23 1;");
        fine(HOUSE, six + "walk 0 0 0 0 23;walk 5 0 23 23 0;change 0 0 0;change 5 0 0;");
        fault(HOUSE, 2, six + "carpet ^24 1;");
        fault(HOUSE, 2, six + "flat ^24 1;");
        fault(HOUSE, 2, six + "walk ^6 0 0 0;");
        fault(HOUSE, 2, six + "walk 0 0 ^24 0;");
        fault(HOUSE, 2, six + "walk 0 0 0 ^24;");
        fault(HOUSE, 2, six + "walk 0 0 0 0 ^24;");
        fault(HOUSE, 2, six + "walk 0 0 0 1 2 3 4 5 6 7 ^24;");
        fault(HOUSE, 2, six + "change ^6 0 0;");
    }

    private static void textOfAReading() {
        says("A READING's text: {'heard' NUMBER NUMBER NUMBER (NUMBER | '-') ';'} (FLAT, minute, SHOE, ECHO)");
        fine(READING, "");
        line(READING, "heard", 4, false);
        fine(READING, "heard 0 0 0 -;");
        fault(READING, 1, "heard 0 0 0 - ^0;");
        fault(READING, 1, "heard 0 0 0 ^;");
        fault(READING, 1, "heard 0 0 0 -^");
        fault(READING, 1, "^steps 3;");
        fault(READING, 1, "^flat 0 0;");
        EchoStair x = fine(READING, "heard 1 2 3 4;heard 4 3 2 -;");
        int[][] told = {{1, 2, 3, 4}, {4, 3, 2, NONE}};
        for (int k = 0; k < 2; k++) {
            for (int what = 0; what < 4; what++) {
                due("sound(0, " + k + ", " + what + ")", x.sound(0, k, what), told[k][what]);
            }
        }
    }

    private static void laterOnesStrike() {
        says("Later ones strike");
        EchoStair x = fine(HOUSE, "steps 5;keep 5;carpet 1 5;person 0 1 1;walk 0 5 0 1 2 3;"
            + "steps 4;keep 4;carpet 1 4;walk 0 4 3 2;");
        due("steps", x.house(0, 0), 4);
        due("keep", x.house(0, 1), 4);
        due("carpet", x.house(0, 101), 4);
        due("minute of the walk", x.person(0, 0, 3), 4);
        due("its step", x.person(0, 0, 4), 3);
        due("its goals", x.person(0, 0, 5), 1);
        due("its goal", x.person(0, 0, 10), 2);
        due("none of the former walk's", x.person(0, 0, 11), -2);
        due("another step's carpet does not strike", fine(HOUSE, "carpet 1 5;carpet 2 4;").house(0, 101), 5);
        due("another one's walk does not strike",
            fine(HOUSE, "person 0 1 1;person 0 1 1;walk 0 5 0 1;walk 1 4 0 1;").person(0, 0, 3), 5);
    }

    private static void furtherOnes() {
        says("but FLATS, PEOPLE, CHANGES, SOUNDS, which are further ones");
        EchoStair x = fine(HOUSE, "flat 1 2;flat 1 2;person 1 1 1;person 1 1 1;change 0 5 1;change 0 5 1;");
        due("flats", x.house(0, 2), 2);
        due("people", x.house(0, 3), 2);
        due("changes", x.house(0, 4), 2);
        due("sounds", fine(READING, "heard 0 0 0 -;heard 0 0 0 -;").sound(0, NONE, 0), 2);
    }

    private static void placesOfFaults() {
        says("FAULTS of both, with places (a token's first byte; the end's)");
        fault(HOUSE, 1, "steps 3; ^abc 3;");
        fault(HOUSE, 2, "steps  ^25;");
        fault(HOUSE, 3, times(6, "flat 1 0; ") + " ^flat 1 0;");
        fault(HOUSE, 1, "steps 3^");
        fault(HOUSE, 1, "steps 3  ^");
        fault(HOUSE, 4, "carpet 12 1; \n ^");
        fault(READING, 1, "heard 0 0 0 -  ^");
        fault(READING, 2, "heard  ^6 0 0 -;");
    }

    private static void faultOne() {
        says("1 the first byte or token with which no text goes on");
        fault(HOUSE, 1, "steps ^! 3; !");
        fault(HOUSE, 1, "steps ^keep 3; keep");
        fault(HOUSE, 1, "steps 3 ^3;;");
        fault(HOUSE, 1, "^! steps 3;");
        fault(READING, 1, "heard 0 ^- 0 0;;");
        fault(HOUSE, 1, "steps 3;keep^");
    }

    private static void longRowOfDigits() {
        says("(a longer row of digits is no token)");
        fault(HOUSE, 1, "keep ^100;");
        fault(HOUSE, 1, "keep ^0000000000000000000000000000001;");
        fault(HOUSE, 1, "person 0 1 1;walk 0 0 0 1 ^123;");
        fault(READING, 1, "heard ^000 0 0 -;");
        fault(HOUSE, 1, "steps 3;^100;");
    }

    private static void ifThereIsNone() {
        says("If there is none, the first by place, of one place the least");
        fault(HOUSE, 1, "steps 1;^!");
        fault(HOUSE, 1, times(7, "flat 1 0;") + "keep^");
        fault(HOUSE, 1, "carpet 12 1;keep 1 ^1;");
        fault(READING, 1, times(11, "heard 6 0 0 -;") + "^x");
        fault(HOUSE, 2, "steps ^1;steps 99;" + times(7, "flat 1 0;"));
        fault(HOUSE, 3, times(6, "flat 1 0;") + "^flat 1 0;steps 1;");
        fault(HOUSE, 2, times(6, "flat 1 0;") + "steps ^1;flat 1 0;");
        fault(HOUSE, 2, "person ^10 0 0;");
        fault(HOUSE, 2, "person 0 1 1;walk 0 0 0 1 2 3 4 5 6 7 8 ^24;");
        fault(READING, 2, "heard 0 0 ^10 10;");
    }

    private static void lineWithANumberThatCannotBe() {
        says("2 a NUMBER that can't be (as above; a line with such a NUMBER tells its FLAT, one of PEOPLE, CHANGE, SOUND"
            + " all the same)");
        fault(HOUSE, 2, times(5, "flat 1 0;") + "flat 1 ^10;flat 1 0;");
        fault(HOUSE, 2, times(5, "person 0 1 1;") + "person 0 ^0 1;person 0 1 1;");
        fault(HOUSE, 2, "person 0 1 1;change 0 0 ^10;" + times(8, "change 0 0 0;"));
        fault(READING, 2, "heard 0 0 ^10 -;" + times(10, "heard 0 0 0 -;"));
        fault(HOUSE, 2, "person ^10 1 1;walk 0 0 0 1;");
        fault(HOUSE, 2, "steps ^25;carpet 23 1;");
    }

    private static void oneTooMany() {
        says("3 a 7th FLAT, 7th of PEOPLE, 9th CHANGE, 11th SOUND, at its first token");
        fine(HOUSE, times(6, "flat 1 0;"));
        fault(HOUSE, 3, times(6, "flat 1 0;") + "^flat 1 0;flat 1 0;");
        fault(HOUSE, 3, times(6, "flat 1 0;") + "^flat 99 99;");
        fine(HOUSE, times(6, "person 0 1 1;"));
        fault(HOUSE, 3, times(6, "person 0 1 1;") + "^person 0 1 1;");
        fault(HOUSE, 3, times(6, "person 0 1 1;") + "^person 99 0 0;");
        fine(HOUSE, "person 0 1 1;" + times(8, "change 0 0 0;"));
        fault(HOUSE, 3, "person 0 1 1;" + times(8, "change 0 0 0;") + "^change 0 0 0;");
        fault(HOUSE, 3, "person 0 1 1;" + times(8, "change 0 0 0;") + "^change 9 0 99;");
        fine(READING, times(10, "heard 0 0 0 -;"));
        fault(READING, 3, times(10, "heard 0 0 0 -;") + "^heard 0 0 0 -;");
        fault(READING, 3, times(10, "heard 0 0 0 -;") + "^heard 9 0 99 -;");
    }

    private static void ninthGoal() {
        says("a 9th GOAL of a WALK, at it");
        String eight = "person 0 1 1;walk 0 0 0 1 2 3 4 5 6 7 8";
        fine(HOUSE, eight + ";");
        fault(HOUSE, 3, eight + " ^9;");
        fault(HOUSE, 3, eight + " ^9 10 24;");
        fault(HOUSE, 3, "person 0 1 1;walk 0 0 0 1 1 1 1 1 1 1 1 ^1;");
        due("eight of each walk", fine(HOUSE, eight + ";walk 0 0 0 1 2 3 4 5 6 7 11;").person(0, 0, 17), 11);
    }

    private static void whatIsNotThere() {
        says("If there is none of these, at the end's place: 4 of a HOUSE a STEP, or one of PEOPLE, that was told of and"
            + " is not there");
        fine(HOUSE, "carpet 11 1;flat 11 1;person 0 1 1;walk 0 0 11 11;change 0 0 0;");
        fault(HOUSE, 4, "carpet 12 1;^");
        fault(HOUSE, 4, "carpet 12 0;^");
        fault(HOUSE, 4, "flat 12 1;^");
        fault(HOUSE, 4, "person 0 1 1;walk 0 0 12 1;^");
        fault(HOUSE, 4, "person 0 1 1;walk 0 0 1 12;^");
        fault(HOUSE, 4, "person 0 1 1;walk 0 0 1 2 3 4 5 6 7 8 12;^");
        fault(HOUSE, 4, "person 0 1 1;walk 1 0 0 1;^");
        fault(HOUSE, 4, "walk 0 0 0 1;^");
        fault(HOUSE, 4, "person 0 1 1;change 1 0 0;^");
        fault(HOUSE, 4, "change 0 0 0;^");
        fault(HOUSE, 4, "steps 24;carpet 23 1;steps 23;^");
        fine(HOUSE, "carpet 23 1;steps 24;");
        fine(HOUSE, "walk 0 0 0 1;change 0 0 0;person 0 1 1;");
        fault(HOUSE, 4, "person 0 1 1;walk 0 0 0 12;walk 0 0 0 1;^");
        fault(HOUSE, 2, "carpet 12 1;steps ^1;");
        fault(HOUSE, 3, "carpet 12 1;" + times(6, "flat 1 0;") + "^flat 1 0;");
        fine(READING, "heard 5 0 0 -;");
    }

    private static void asManyAsMayBe() {
        says("HOUSES, at most 2 (sort 0), READINGS, at most 2 (1), from 0 on");
        EchoStair x = new EchoStair();
        due("the first house", tell(x, HOUSE, "steps 3;"), 0);
        due("the first reading", tell(x, READING, "heard 0 0 0 -;"), 0);
        due("the second house", tell(x, HOUSE, "steps 4;"), 1);
        due("the second reading", tell(x, READING, "heard 0 0 0 -;heard 0 0 0 -;"), 1);
        due("a third house", tell(x, HOUSE, "steps 5;"), -2);
        due("a third reading", tell(x, READING, ""), -2);
        due("houses", x.count(HOUSE), 2);
        due("readings", x.count(READING), 2);
        due("house 0", x.house(0, 0), 3);
        due("house 1", x.house(1, 0), 4);
        due("no house 2", x.house(2, 0), NONE);
        due("reading 0", x.sound(0, NONE, 0), 1);
        due("reading 1", x.sound(1, NONE, 0), 2);
        due("no reading 2", x.sound(2, NONE, 0), -2);
    }

    public static void main(String[] args) {
        steps();
        stepsFromNoughtOn();
        keep();
        carpets();
        flats();
        people();
        walks();
        changes();
        sounds();
        tape();
        tokensAsLongAsTheyGo();
        blanks();
        words();
        numbers();
        signsOfOneByte();
        textOfAHouse();
        valuesOfAHouse();
        stepsAndPeopleOfTexts();
        textOfAReading();
        laterOnesStrike();
        furtherOnes();
        placesOfFaults();
        faultOne();
        longRowOfDigits();
        ifThereIsNone();
        lineWithANumberThatCannotBe();
        oneTooMany();
        ninthGoal();
        whatIsNotThere();
        asManyAsMayBe();
        System.out.println(sentences + " sentences, " + checks + " answers, " + wrong + " not as due");
        if (wrong != 0) {
            System.exit(1);
        }
    }
}
