/**
 * Terms, 2 and 3, of the document: every sentence that names a boundary case of shoes, treads, notes and ways has a
 * test of its own here, in the document's order. The words of the sentence stand first in each test.
 */
public final class TermStairTest {
    private static final int NONE = -1;

    private static int checks = 0;
    private static int wrong = 0;
    private static int sentences = 0;
    private static String sentence = "";

    private static void says(String words) {
        sentences++;
        sentence = words;
    }

    private static void due(String call, long got, long want) {
        checks++;
        if (got != want) {
            wrong++;
            System.out.println("'" + sentence + "': " + call + " answered " + got + ", due is " + want);
        }
    }

    /** A new object with one house. */
    private static EchoStair house(String text) {
        EchoStair x = new EchoStair();
        for (int i = 0; i < text.length(); i += 20) {
            int[] five = new int[5];
            for (int j = 0; j < 20; j++) {
                int sign = i + j < text.length() ? text.charAt(i + j) : 0;
                five[j / 4] = five[j / 4] << 8 | sign;
            }
            x.feed(five[0], five[1], five[2], five[3], five[4]);
        }
        x.end(text.length());
        due("text of " + text, x.text(0, NONE), 0);
        return x;
    }

    private static String times(int n, String text) {
        StringBuilder b = new StringBuilder();
        for (int i = 0; i < n; i++) {
            b.append(text);
        }
        return b.toString();
    }

    /** One is on these steps from a minute on, and on none ahead of it. */
    private static void duePath(EchoStair x, int person, int minute, int... steps) {
        if (minute > 0) {
            due("where(0, " + person + ", " + (minute - 1) + ")", x.where(0, person, minute - 1), NONE);
        }
        for (int i = 0; i < steps.length; i++) {
            due("where(0, " + person + ", " + (minute + i) + ")", x.where(0, person, minute + i), steps[i]);
        }
    }

    /** What a kind of answer is for each tread: as many treads as answers. */
    private static void dueTreads(EchoStair x, int what, int... answers) {
        due("how many treads", x.tread(0, NONE, 0), answers.length);
        for (int k = 0; k < answers.length; k++) {
            due("tread(0, " + k + ", " + what + ")", x.tread(0, k, what), answers[k]);
        }
    }

    /** The whole row of a way home by some flats; errand: person, from, to, minute, flats. */
    private static void dueHome(EchoStair x, int[] errand, int... row) {
        String call = "home " + errand[0] + " from " + errand[1] + " to " + errand[2] + " in " + errand[3] + " by " + errand[4];
        for (int what = 0; what <= 10 + row.length; what++) {
            int want = what == 0 ? row.length : what >= 10 && what < 10 + row.length ? row[what - 10] : NONE;
            due(call + ", " + what, x.home(0, errand[0], errand[1], errand[2], errand[3], errand[4], what), want);
        }
    }

    private static void dueNoHome(EchoStair x, int[] errand) {
        due("no home", x.home(0, errand[0], errand[1], errand[2], errand[3], errand[4], 0), NONE);
        due("no row", x.home(0, errand[0], errand[1], errand[2], errand[3], errand[4], 10), NONE);
    }

    /** The whole row of a thief's way; errand: person, from, to, minute, and how many treads are heard. */
    private static void dueThief(EchoStair x, int[] errand, int... row) {
        String call = "thief " + errand[0] + " from " + errand[1] + " to " + errand[2] + " in " + errand[3];
        for (int what = 0; what <= 10 + row.length; what++) {
            int want = what == 0 ? errand[4] : what == 1 ? row.length : NONE;
            if (what >= 10 && what < 10 + row.length) {
                want = row[what - 10];
            }
            due(call + ", " + what, x.thief(0, errand[0], errand[1], errand[2], errand[3], what), want);
        }
    }

    private static int[] errand(int... numbers) {
        return numbers;
    }

    /** A row of the same step so often, and then others. */
    private static int[] stay(int n, int step, int... then) {
        int[] row = new int[n + then.length];
        for (int i = 0; i < row.length; i++) {
            row[i] = i < n ? step : then[i - n];
        }
        return row;
    }

    // Terms, 2

    private static void shoeNotBehind() {
        says("SHOE of one in a minute: of his CHANGES the one with the latest minute not behind it");
        EchoStair x = house("person 1 1 1;person 2 1 1;change 0 30 5;change 0 10 4;change 1 0 8;change 0 99 6;");
        int[][] shoes = {{0, 1}, {9, 1}, {10, 4}, {11, 4}, {29, 4}, {30, 5}, {31, 5}, {98, 5}, {99, 6}};
        for (int[] one : shoes) {
            due("shoe of 0 in " + one[0], x.person(0, 0, 100 + one[0]), one[1]);
        }
        due("another one's is his alone", x.person(0, 1, 199), 8);
        due("from minute 0 on", x.person(0, 1, 100), 8);
    }

    private static void shoeLastTold() {
        says("(of several the last told)");
        EchoStair x = house("person 1 1 1;change 0 10 5;change 0 10 3;change 0 5 9;");
        due("in minute 9", x.person(0, 0, 109), 9);
        due("in minute 10", x.person(0, 0, 110), 3);
        due("in minute 0, of three", house("person 1 1 1;change 0 0 5;change 0 0 9;change 0 0 2;").person(0, 0, 100), 2);
    }

    private static void shoeAsTold() {
        says("without any as told");
        EchoStair x = house("person 7 1 1;person 3 1 1;change 1 0 4;");
        due("without changes", x.person(0, 0, 100), 7);
        due("to the end", x.person(0, 0, 199), 7);
        due("at first, in spite of a change in minute 0", x.person(0, 1, 0), 3);
    }

    private static void loud() {
        says("LOUD of one on a STEP in a minute: WEIGHT and SHOE less CARPET, 0 at least");
        dueTreads(house("person 9 9 1;walk 0 0 0 0;"), 4, 18);
        dueTreads(house("person 0 1 1;walk 0 0 0 0;"), 4, 1);
        dueTreads(house("carpet 0 3;person 2 2 1;walk 0 0 0 0;"), 4, 1);
        dueTreads(house("carpet 0 4;person 2 2 1;walk 0 0 0 0;"), 4, 0);
        dueTreads(house("carpet 0 5;person 2 2 1;walk 0 0 0 0;"), 4, 0);
        dueTreads(house("carpet 0 9;person 0 1 1;walk 0 0 0 0;"), 4, 0);
        dueTreads(house("carpet 1 3;person 2 2 1;walk 0 0 0 2;change 0 2 9;"), 4, 4, 1, 11);
    }

    private static void far() {
        says("FAR of two STEPS: how many lie from one to the other");
        // Loud 1, ear 0: heard no farther than 1.
        EchoStair x = house("steps 9;flat 4 0;person 0 1 1;walk 0 0 0 8;");
        dueTreads(x, 6, 0, 0, 0, 1, 1, 1, 0, 0, 0);
    }

    private static void hearsLoud() {
        says("A FLAT HEARS what is LOUD on a STEP, if that is above 0");
        dueTreads(house("steps 2;flat 0 9;carpet 0 1;person 0 1 1;walk 0 0 0 1;"), 6, 0, 1);
        dueTreads(house("steps 2;flat 0 0;carpet 0 1;person 1 1 1;walk 0 0 0 0;"), 6, 1);
    }

    private static void hearsFar() {
        says("and FAR from its own is not above EAR and LOUD together");
        // Ear 2, loud 3: heard from 5 off, not from 6.
        EchoStair x = house("steps 24;flat 12 2;person 1 2 1;walk 0 0 5 20;");
        dueTreads(x, 6, 0, 0, 1, 1, 1, 1, 1, 1, 1, 1, 1, 1, 1, 0, 0, 0);
        dueTreads(house("steps 24;flat 23 9;flat 23 8;person 9 5 1;walk 0 0 0 0;"), 6, 1);
        dueTreads(house("steps 24;flat 0 9;flat 0 8;person 9 5 1;walk 0 0 23 23;"), 6, 1);
    }

    private static void walkBegins() {
        says("A WALK: in its minute one treads on its STEP");
        EchoStair x = house("person 0 1 1;walk 0 60 5 6;");
        duePath(x, 0, 60, 5, 6, 6);
        dueTreads(x, 2, 60, 61);
        duePath(house("person 0 1 1;walk 0 0 5 6;"), 0, 0, 5, 6);
    }

    private static void walkGoes() {
        says("each minute further he goes RISE STEPS towards his GOAL (or as many as are left), and treads there");
        EchoStair x = house("person 0 1 4;walk 0 3 0 9;");
        duePath(x, 0, 3, 0, 4, 8, 9, 9);
        dueTreads(x, 1, 0, 4, 8, 9);
        duePath(house("person 0 1 4;walk 0 3 9 0;"), 0, 3, 9, 5, 1, 0, 0);
        duePath(house("person 0 1 4;walk 0 3 1 9;"), 0, 3, 1, 5, 9, 9);
        duePath(house("person 0 1 1;walk 0 3 1 0;"), 0, 3, 1, 0, 0);
    }

    private static void walkOnAGoal() {
        says("on a GOAL he goes on to the next one in the next minute");
        duePath(house("person 0 1 4;walk 0 0 0 3 11 9;"), 0, 0, 0, 3, 7, 11, 9, 9);
        duePath(house("person 0 1 2;walk 0 0 5 6 5 6;"), 0, 0, 5, 6, 5, 6, 6);
    }

    private static void goalsPassedOver() {
        says("(a GOAL on which he is is passed over at once, also more of them)");
        duePath(house("person 0 1 1;walk 0 2 5 5 6;"), 0, 2, 5, 6, 6);
        duePath(house("person 0 1 1;walk 0 2 5 5 5 5 6;"), 0, 2, 5, 6, 6);
        EchoStair x = house("person 0 1 1;walk 0 2 5 6 6 6 7 7 5 5;");
        duePath(x, 0, 2, 5, 6, 7, 6, 5, 5);
        dueTreads(x, 1, 5, 6, 7, 6, 5);
        dueTreads(house("person 0 1 1;walk 0 2 5 5;"), 1, 5);
        dueTreads(house("person 0 1 1;walk 0 2 5 5 5 5 5 5 5 5 5;"), 1, 5);
    }

    private static void walkEnds() {
        says("at the last one he stays and treads no more");
        EchoStair x = house("person 0 1 1;walk 0 2 5 6;");
        due("treads", x.tread(0, NONE, 0), 2);
        due("there in minute 4", x.where(0, 0, 4), 6);
        due("and in minute 99", x.where(0, 0, 99), 6);
        due("his last tread", x.person(0, 0, 6), 3);
        // The sixth of six, with eight goals.
        EchoStair y = house(times(6, "person 0 1 4;") + "walk 5 0 0 1 2 3 4 5 6 7 8;");
        due("treads", y.tread(0, NONE, 0), 9);
        due("he stays on the eighth", y.where(0, 5, 99), 8);
    }

    private static void treadsInOrder() {
        says("TREADS, minute by minute, of one minute by PEOPLE, from 0 on");
        EchoStair x = house("person 0 1 1;person 0 1 1;person 0 1 1;walk 2 0 0 1;walk 0 1 5 6;walk 1 1 7 7;");
        dueTreads(x, 0, 2, 0, 1, 2, 0);
        dueTreads(x, 2, 0, 1, 1, 1, 2);
        dueTreads(house("person 0 1 1;"), 0);
    }

    private static void treadsToMinute99() {
        says("to minute 99");
        EchoStair x = house("steps 24;person 0 1 1;walk 0 60 0 23 0 23;");
        due("treads", x.tread(0, NONE, 0), 40);
        due("minute of the last", x.tread(0, 39, 2), 99);
        due("step of the last", x.tread(0, 39, 1), 7);
        due("no further", x.tread(0, 40, 2), -2);
        due("on it at the end", x.person(0, 0, 7), 7);
        // From 0 to 23 and, 16 more, to 7: he is there just in minute 99.
        EchoStair y = house("steps 24;person 0 1 1;walk 0 60 0 23 7;");
        due("the last tread falls in 99", y.person(0, 0, 6), 99);
        due("on its goal", y.person(0, 0, 7), 7);
        String all = times(6, "person 0 1 1;");
        StringBuilder walks = new StringBuilder("steps 24;" + all);
        for (int p = 0; p < 6; p++) {
            walks.append("walk ").append(p).append(" 0 0 23 0 23 0 23 0;");
        }
        due("six in every minute", house(walks.toString()).tread(0, NONE, 0), 600);
    }

    private static void echoOfTheLatest() {
        says("ECHO of a TREAD: the latest one ahead of it on its STEP");
        EchoStair x = house("steps 9;keep 99;person 0 1 1;person 0 1 1;person 0 1 1;walk 0 0 5 6;walk 1 1 5 5;walk 2 1 5 4;");
        // 0: on 5 in 0. 1: on 6 by 0 in 1. 2, 3: on 5 by 1 and 2 in 1. 4: on 4 by 2 in 2.
        dueTreads(x, 1, 5, 6, 5, 5, 4);
        dueTreads(x, 5, NONE, NONE, 0, 2, NONE);
        dueTreads(house("steps 2;person 0 1 1;walk 0 0 0 1 0 1 0;"), 5, NONE, NONE, 0, 1, 2);
    }

    private static void echoKept() {
        says("if it was no more than KEEP minutes ahead");
        String two = "person 0 1 1;person 0 1 1;walk 0 0 5 5;walk 1 ";
        dueTreads(house("keep 7;" + two + "7 5 5;"), 5, NONE, 0);
        dueTreads(house("keep 7;" + two + "8 5 5;"), 5, NONE, NONE);
        dueTreads(house("keep 0;" + two + "0 5 5;"), 5, NONE, 0);
        dueTreads(house("keep 0;" + two + "1 5 5;"), 5, NONE, NONE);
        dueTreads(house(two + "60 5 5;"), 5, NONE, 0);
        dueTreads(house("keep 59;" + two + "60 5 5;"), 5, NONE, NONE);
    }

    private static void echoHalf() {
        says("as LOUD as half of that one was, cut");
        // Who comes last is not loud on the carpet: what is heard of it is the echo.
        String quiet = "steps 9;carpet 0 1;person 0 1 1;";
        dueTreads(house(quiet + "flat 0 9;person 0 2 1;walk 1 0 0 0;walk 0 1 0 0;"), 7, 0, 0);
        dueTreads(house(quiet + "flat 0 9;person 0 3 1;walk 1 0 0 0;walk 0 1 0 0;"), 7, 0, 1);
        // Loud 7, its half 3: heard from 3 off by ear 0, not from 4.
        dueTreads(house(quiet + "flat 3 0;flat 4 0;person 0 8 1;walk 1 0 0 0;walk 0 1 0 0;"), 7, 0, 1);
        dueTreads(house(quiet + "flat 4 0;flat 5 0;person 0 9 1;walk 1 0 0 0;walk 0 1 0 0;"), 7, 0, 1);
        // As loud as it was then, not as he would be now.
        dueTreads(house(quiet + "flat 0 9;person 9 1 1;walk 1 0 0 0;walk 0 5 0 0;change 1 1 0;"), 7, 0, 1);
        dueTreads(house(quiet + "flat 0 9;person 0 1 1;walk 1 0 0 0;walk 0 5 0 0;change 1 1 9;"), 7, 0, 0);
    }

    private static void notes() {
        says("NOTES of a FLAT: TREADS of which it HEARS the tread, the ECHO, or both");
        EchoStair tread = house("flat 0 0;person 0 1 1;walk 0 0 0 0;");
        due("the tread alone", tread.note(0, 0, NONE, 0), 1);
        EchoStair echo = house("flat 0 0;carpet 0 1;person 9 1 1;person 0 1 1;walk 0 0 0 0;walk 1 1 0 0;");
        due("the echo alone, too", echo.note(0, 0, NONE, 0), 2);
        due("its shoe is not heard", echo.note(0, 0, 1, 1), NONE);
        due("the echo's is", echo.note(0, 0, 1, 2), 9);
        EchoStair both = house("flat 0 0;person 9 1 1;person 0 1 1;walk 0 0 0 0;walk 1 1 0 0;");
        due("both are one note", both.note(0, 0, NONE, 0), 2);
        due("with its shoe", both.note(0, 0, 1, 1), 0);
        due("and the echo's", both.note(0, 0, 1, 2), 9);
        EchoStair none = house("flat 0 0;carpet 0 1;person 0 1 1;person 0 1 1;walk 0 0 0 0;walk 1 1 0 0;");
        due("neither: no note", none.note(0, 0, NONE, 0), 0);
    }

    private static void ghosts() {
        says("GHOST: a NOTE whose ECHO is HEARD, and is of one whose last TREAD of all is ahead of that minute");
        String two = "flat 0 0;person 9 1 1;person 0 1 1;";
        due("his last tread is ahead", house(two + "walk 0 0 0 1;walk 1 2 0 0;").note(0, 0, NONE, 1), 1);
        due("it falls in that minute", house(two + "walk 0 0 0 1;walk 1 1 0 0;").note(0, 0, NONE, 1), 0);
        due("it is behind", house(two + "walk 0 0 0 2;walk 1 1 0 0;").note(0, 0, NONE, 1), 0);
        due("of another step, but of all", house(two + "walk 0 0 0 9;walk 1 2 0 0;").note(0, 0, NONE, 1), 0);
        due("an echo of the same minute", house(two + "walk 0 1 0 0;walk 1 1 0 0;").note(0, 0, NONE, 1), 0);
        due("an echo of his own", house("flat 0 0;person 9 1 1;walk 0 0 0 1 0;").note(0, 0, NONE, 1), 0);
        // Loud 1: the echo is there, but not heard.
        EchoStair x = house("flat 0 0;person 0 1 1;person 0 1 1;walk 0 0 0 0;walk 1 1 0 0;");
        due("there is an echo", x.tread(0, 1, 5), 0);
        due("a note", x.note(0, 0, 1, 0), 1);
        due("but no ghost", x.note(0, 0, 1, 3), 0);
    }

    // Terms, 3

    private static void homeMinute() {
        says("HOME of one, from a STEP to another one, from a minute on, by some FLATS (bits)");
        // Flat 0 hears step 1, flat 1 step 10; nobody else treads.
        EchoStair x = house("steps 12;flat 1 0;flat 10 0;person 0 1 1;");
        dueHome(x, errand(0, 3, 5, 0, 3), 4, 5);
        dueHome(x, errand(0, 3, 0, 0, 2), 2, 1, 0);
        dueNoHome(x, errand(0, 3, 0, 0, 1));
        dueNoHome(x, errand(0, 3, 0, 0, 3));
        dueHome(x, errand(0, 8, 11, 99, 1), 9, 10, 11);
        dueNoHome(x, errand(0, 8, 11, 99, 2));
        dueHome(x, errand(0, 8, 11, 99, 0), 9, 10, 11);
        // Another one's echo dies in minute 5: the first tread falls in the minute behind the told one.
        EchoStair y = house("steps 2;keep 5;carpet 1 1;flat 1 0;person 0 1 1;person 0 9 1;walk 1 0 1 1;");
        dueHome(y, errand(0, 0, 1, 5, 1), 1);
        dueHome(y, errand(0, 0, 1, 4, 1), 0, 1);
    }

    private static void homeGoes() {
        says("each minute he stays (and treads not), or goes 1 to RISE STEPS up or down, and treads there");
        EchoStair x = house("person 0 1 4;person 0 1 1;");
        dueHome(x, errand(0, 0, 1, 0, 0), 1);
        dueHome(x, errand(0, 0, 4, 0, 0), 4);
        dueHome(x, errand(0, 0, 5, 0, 0), 1, 5);
        dueHome(x, errand(0, 11, 7, 0, 0), 7);
        dueHome(x, errand(0, 11, 6, 0, 0), 7, 6);
        dueHome(x, errand(1, 0, 2, 0, 0), 1, 2);
        dueHome(x, errand(1, 11, 9, 0, 0), 10, 9);
        // In minutes 2 .. 7 every tread of his is heard, so he stays where he is, though a tread there was heard, too.
        EchoStair y = house("steps 3;carpet 0 1;carpet 1 9;flat 2 9;person 0 1 1;change 0 2 9;change 0 8 0;");
        dueHome(y, errand(0, 2, 0, 0, 1), stay(7, 1, 0));
    }

    private static void homeFewest() {
        says("the fewest minutes, up to 60, till he is there");
        // The echo on step 1 is kept till minute 99.
        EchoStair x = house("steps 2;keep 99;carpet 1 1;flat 1 0;person 0 1 1;person 0 9 1;walk 1 0 1 1;");
        dueHome(x, errand(0, 0, 1, 40, 1), stay(59, 0, 1));
        dueNoHome(x, errand(0, 0, 1, 39, 1));
        dueHome(x, errand(0, 0, 1, 99, 1), 1);
        due("there already: 0", x.home(0, 0, 1, 1, 0, 1, 0), 0);
        due("without a row", x.home(0, 0, 1, 1, 0, 1, 10), NONE);
        dueHome(house("steps 24;person 0 1 1;"), errand(0, 0, 23, 0, 0),
            1, 2, 3, 4, 5, 6, 7, 8, 9, 10, 11, 12, 13, 14, 15, 16, 17, 18, 19, 20, 21, 22, 23);
        // As many steps and minutes as there may be: he is heard on 1, waits on 2, and goes to 0 in minute 100.
        EchoStair y = house("steps 24;keep 99;carpet 0 1;flat 0 0;person 0 1 4;person 0 9 1;walk 1 0 0 0;");
        int[] row = stay(60, 2);
        int[] down = {19, 15, 11, 7, 3};
        System.arraycopy(down, 0, row, 0, down.length);
        row[59] = 0;
        dueHome(y, errand(0, 23, 0, 40, 1), row);
        dueNoHome(y, errand(0, 23, 0, 39, 1));
    }

    private static void homeUnheard() {
        says("so that none of these FLATS HEARS a tread of his or its ECHO");
        // On the way up steps 1, 2, 3: his tread is heard on 2 by flat 0, an echo on 3 by flat 1.
        EchoStair x = house("steps 9;carpet 1 1;carpet 3 1;carpet 4 1;flat 1 0;flat 8 4;person 0 1 1;person 0 3 1;walk 1 0 3 3;");
        dueNoHome(x, errand(0, 0, 2, 5, 1));
        dueHome(x, errand(0, 0, 2, 5, 2), 1, 2);
        // The echo is kept till minute 60: he waits for it, if that is no more than 60 minutes off.
        dueNoHome(x, errand(0, 4, 3, 0, 2));
        dueHome(x, errand(0, 4, 3, 5, 2), stay(55, 4, 3));
        dueHome(x, errand(0, 4, 3, 5, 1), 3);
        dueHome(x, errand(0, 4, 3, 60, 2), 3);
        dueHome(x, errand(0, 4, 3, 59, 2), 4, 3);
    }

    private static void homeOthers() {
        says("(of TREADS of all others, as told; his own WALK, if he has one, is not made");
        String stair = "steps 2;keep 99;carpet 1 1;flat 1 0;";
        EchoStair x = house(stair + "person 0 1 1;walk 0 0 1 1;change 0 0 9;change 0 1 0;");
        due("of his walk an echo were heard", x.tread(0, 0, 6), 1);
        dueHome(x, errand(0, 0, 1, 1, 1), 1);
        // One whose walk wakes the other's: without it, the other one's echo is still heard.
        EchoStair y = house(stair + "person 0 1 1;person 9 9 1;walk 1 0 1 1;walk 0 1 1 1;");
        dueNoHome(y, errand(0, 0, 1, 1, 1));
        // An echo wakes by its latest tread alone: behind a loud one came a soft one.
        EchoStair z = house(stair + "person 0 1 1;person 9 9 1;person 0 1 1;walk 1 0 1 1;walk 2 5 1 1;");
        dueHome(z, errand(0, 0, 1, 4, 1), 0, 1);
        dueHome(z, errand(0, 0, 1, 5, 1), 1);
        // Of the same minute those are ahead who have a lower number.
        EchoStair lower = house("steps 2;keep 0;carpet 1 1;flat 1 0;person 9 9 1;person 0 1 1;walk 0 5 1 1;");
        dueHome(lower, errand(1, 0, 1, 4, 1), 0, 1);
        EchoStair higher = house("steps 2;keep 0;carpet 1 1;flat 1 0;person 0 1 1;person 9 9 1;walk 1 5 1 1;");
        dueHome(higher, errand(0, 0, 1, 4, 1), 1);
    }

    private static void homeOwnTreads() {
        says("his own new treads give no ECHO");
        // In minute 1 his tread on step 1 is loud, but covered; from minute 2 on he is not loud. He has to wait for the
        // cover on step 3 in minute 6, and by rows goes down to 0 and over step 1 again, where he would wake himself.
        EchoStair x = house("steps 4;keep 99;carpet 0 1;carpet 1 1;carpet 2 1;flat 3 9;person 9 1 1;person 0 1 1;"
            + "person 0 1 1;change 0 2 0;walk 1 1 1 1;walk 2 6 3 3;");
        dueThief(x, errand(0, 2, 3, 0, 0), 1, 0, 0, 1, 2, 3);
    }

    private static void homeFirstStep() {
        says("the first STEP he does not tread on)");
        EchoStair x = house("steps 3;carpet 1 1;carpet 2 1;flat 0 9;person 0 1 1;");
        dueHome(x, errand(0, 0, 2, 0, 1), 1, 2);
        dueNoHome(x, errand(0, 2, 0, 0, 1));
        dueThief(x, errand(0, 0, 2, 0, 0), 1, 2);
    }

    private static void homeRows() {
        says("of several the first by rows of STEPS (where he is behind each minute)");
        EchoStair x = house("person 0 1 4;person 0 1 1;");
        dueHome(x, errand(0, 0, 6, 0, 0), 2, 6);
        dueHome(x, errand(0, 6, 0, 0, 0), 2, 0);
        dueHome(x, errand(0, 11, 0, 0, 0), 7, 3, 0);
        dueHome(x, errand(0, 0, 11, 0, 0), 3, 7, 11);
        // He has to wait for minute 6, and is as low as he can be till then.
        EchoStair y = house("steps 4;keep 5;carpet 0 1;carpet 1 1;carpet 2 1;carpet 3 1;flat 3 9;person 0 1 1;person 0 9 1;"
            + "walk 1 0 3 3;");
        dueHome(y, errand(0, 2, 3, 0, 1), 1, 0, 0, 1, 2, 3);
    }

    private static void thiefMayBeHeard() {
        says("THIEF, likewise, with all FLATS: he may be HEARD");
        EchoStair x = house("steps 3;flat 0 0;flat 2 0;person 0 1 1;");
        dueThief(x, errand(0, 0, 2, 0, 2), 1, 2);
        dueThief(x, errand(0, 2, 0, 99, 2), 1, 0);
        dueThief(x, errand(0, 1, 1, 0, 0));
        dueThief(house("steps 3;person 9 9 2;"), errand(0, 0, 2, 0, 0), 2);
    }

    private static void thiefCovered() {
        says("a tread of his is COVERED, if another one treads on that STEP in that minute");
        String stair = "steps 2;keep 0;flat 0 0;";
        dueThief(house(stair + "person 0 9 1;person 0 1 1;walk 1 1 1 1;"), errand(0, 0, 1, 0, 0), 1);
        dueThief(house(stair + "person 0 1 1;person 0 9 1;walk 0 1 1 1;"), errand(1, 0, 1, 0, 0), 1);
        // In another minute, on another step, by one who stays there and treads not, by his own walk: not covered.
        dueThief(house(stair + "person 0 9 1;person 0 1 1;walk 1 0 1 1;"), errand(0, 0, 1, 0, 1), 1);
        dueThief(house(stair + "person 0 9 1;person 0 1 1;walk 1 1 0 0;"), errand(0, 0, 1, 0, 1), 1);
        dueThief(house(stair + "person 0 9 1;walk 0 1 1 1;"), errand(0, 0, 1, 0, 1), 1);
        // He waits for it, up to 60 minutes.
        EchoStair x = house(stair + "person 0 9 1;person 0 1 1;walk 1 60 1 1;");
        dueThief(x, errand(0, 0, 1, 0, 0), stay(59, 0, 1));
        EchoStair y = house(stair + "person 0 9 1;person 0 1 1;walk 1 60 0 1;");
        dueThief(y, errand(0, 0, 1, 0, 1), 1);
        dueThief(y, errand(0, 0, 1, 1, 0), stay(59, 0, 1));
    }

    private static void thiefFewest() {
        says("the fewest treads that are HEARD (itself or its ECHO, by any FLAT) and not COVERED");
        // Of three steps the middle one has a carpet; each is one tread, by however many flats.
        EchoStair x = house("steps 4;carpet 2 9;flat 0 9;flat 3 9;person 0 9 1;");
        dueThief(x, errand(0, 0, 3, 0, 2), 1, 2, 3);
        // The echo alone is heard, by the second flat alone.
        EchoStair y = house("steps 9;keep 5;carpet 1 1;carpet 2 1;flat 8 0;flat 2 0;person 0 1 1;person 0 4 1;walk 1 0 1 1;");
        dueThief(y, errand(0, 0, 1, 4, 0), 0, 1);
        dueThief(house("steps 9;keep 99;carpet 1 1;flat 8 0;flat 2 0;person 0 1 1;person 0 4 1;walk 1 0 1 1;"),
            errand(0, 0, 1, 1, 1), 1);
        // By 4 and 2 two treads are heard, by 3 it were three; from 3 to 0 at once he can't go.
        dueThief(house("steps 7;flat 0 2;person 0 1 2;"), errand(0, 5, 0, 0, 2), 4, 2, 0);
        // Four at once make fewer treads than one by one.
        dueThief(house("flat 6 9;person 0 9 4;"), errand(0, 0, 9, 0, 3), 1, 5, 9);
    }

    private static void thiefThenMinutes() {
        says("of such the fewest minutes, then the first by rows");
        // Covered on step 1 in minutes 3 and 5: he takes the first.
        EchoStair x = house("steps 2;keep 0;flat 0 0;person 0 9 1;person 0 1 1;person 0 1 1;walk 1 3 1 1;walk 2 5 1 1;");
        dueThief(x, errand(0, 0, 1, 0, 0), 0, 0, 1);
        dueThief(x, errand(0, 0, 1, 3, 0), 0, 1);
        dueThief(x, errand(0, 0, 1, 5, 1), 1);
        // Step 3 by 1 or by 2: by 1 it is.
        dueThief(house("steps 4;person 0 9 2;"), errand(0, 0, 3, 0, 0), 1, 3);
        dueThief(house("steps 4;flat 0 9;person 0 9 2;"), errand(0, 3, 0, 0, 2), 1, 0);
    }

    private static void mixed() {
        says("APART: two are MIXED, if some FLAT HEARS a tread of both");
        String two = "steps 24;person 0 1 1;person 0 1 1;walk 0 0 0 0;";
        due("by one flat", house(two + "flat 0 0;walk 1 9 1 1;").apart(0, 0), 2);
        due("just too far", house(two + "flat 0 0;walk 1 9 2 2;").apart(0, 0), 1);
        due("each by another flat", house(two + "flat 0 0;flat 9 0;walk 1 9 9 9;").apart(0, 0), 1);
        due("each by both", house(two + "flat 0 0;flat 1 0;walk 1 9 1 1;").apart(0, 0), 2);
        due("one without a walk", house(two + "flat 0 9;").apart(0, 0), 1);
        due("by its echo alone", house("flat 0 9;carpet 0 1;person 9 1 1;person 0 1 1;walk 0 0 0 0;walk 1 1 0 0;").apart(0, 0), 1);
    }

    private static void fewestShoes() {
        says("the fewest SHOES so that of all who are MIXED each has another one");
        due("nobody", house("flat 0 9;").apart(0, 0), 0);
        due("one", house("flat 0 9;person 0 1 1;walk 0 0 0 0;").apart(0, 0), 1);
        due("nobody is mixed", house(times(6, "person 0 1 1;")).apart(0, 0), 1);
        StringBuilder six = new StringBuilder("flat 0 9;" + times(6, "person 5 1 1;"));
        for (int p = 0; p < 6; p++) {
            six.append("walk ").append(p).append(" 0 0 0;");
        }
        due("six are mixed", house(six.toString()).apart(0, 0), 6);
    }

    private static void firstWay() {
        says("the first way by rows (of PEOPLE, from SHOE 0 on)");
        // Mixed are 0 and 2, 2 and 3, 3 and 1: if 1 had shoe 0 as 0 has, a third shoe were needed.
        EchoStair x = house("steps 24;flat 0 0;flat 10 0;flat 20 0;" + times(4, "person 0 1 4;")
            + "walk 0 0 0 0;walk 1 0 20 20;walk 2 0 0 10;walk 3 0 10 20;");
        int[] worn = {2, NONE, NONE, NONE, NONE, NONE, NONE, NONE, NONE, NONE, 0, 1, 1, 0, NONE};
        for (int what = 0; what < worn.length; what++) {
            due("apart(0, " + what + ")", x.apart(0, what), worn[what]);
        }
        // Mixed are 1 and 2 alone: all others have shoe 0.
        EchoStair y = house("flat 0 0;" + times(4, "person 0 1 1;") + "walk 1 0 0 0;walk 2 0 0 0;");
        int[] others = {0, 0, 1, 0};
        for (int p = 0; p < 4; p++) {
            due("shoe of " + p, y.apart(0, 10 + p), others[p]);
        }
    }

    private static void worth() {
        says("WORTH of a CARPET that is so much thicker (up to 9 in all) on a STEP: how many NOTES fewer all FLATS have");
        EchoStair x = house("steps 4;flat 0 0;flat 3 9;carpet 2 5;person 5 6 1;walk 0 0 2 2;");
        due("9 in all, not 14", x.worth(0, 2, 9), 0);
        EchoStair y = house("flat 0 0;flat 0 9;carpet 0 5;person 5 4 1;walk 0 0 0 0;");
        due("4 thicker: two flats", y.worth(0, 0, 4), 2);
        due("3 thicker", y.worth(0, 0, 3), 0);
        due("9 thicker", y.worth(0, 0, 9), 2);
        due("on another step", y.worth(0, 1, 9), 0);
        // Its echo stays while the tread is silenced: loud 9 and 1, the echo 4.
        EchoStair z = house("flat 0 0;person 0 9 1;person 0 1 1;walk 0 0 0 0;walk 1 1 0 0;");
        due("the echo is still heard", z.worth(0, 0, 7), 0);
        due("half of 1 is not", z.worth(0, 0, 8), 1);
        due("nothing is", z.worth(0, 0, 9), 2);
    }

    private static void best() {
        says("BEST: the STEP of which that is most; of several the least");
        EchoStair x = house("steps 24;flat 5 9;person 0 1 1;walk 0 0 5 7 6 5;");
        due("5 and 6 are worth two each", x.worth(0, 6, 1), 2);
        due("the lesser of both", x.worth(0, NONE, 1), 5);
        due("none is worth anything", house("steps 3;").worth(0, NONE, 9), 0);
        EchoStair y = house("steps 24;flat 23 0;person 0 1 1;walk 0 0 23 22 23;");
        due("the last one", y.worth(0, NONE, 1), 23);
        EchoStair z = house("flat 0 9;person 0 1 1;walk 0 0 1 1;");
        due("the second one", z.worth(0, NONE, 1), 1);
        due("behind busy, which is another reckoning", z.look(0, 1), 1);
        due("the second one again", z.worth(0, NONE, 1), 1);
    }

    public static void main(String[] args) {
        shoeNotBehind();
        shoeLastTold();
        shoeAsTold();
        loud();
        far();
        hearsLoud();
        hearsFar();
        walkBegins();
        walkGoes();
        walkOnAGoal();
        goalsPassedOver();
        walkEnds();
        treadsInOrder();
        treadsToMinute99();
        echoOfTheLatest();
        echoKept();
        echoHalf();
        notes();
        ghosts();
        homeMinute();
        homeGoes();
        homeFewest();
        homeUnheard();
        homeOthers();
        homeOwnTreads();
        homeFirstStep();
        homeRows();
        thiefMayBeHeard();
        thiefCovered();
        thiefFewest();
        thiefThenMinutes();
        mixed();
        fewestShoes();
        firstWay();
        worth();
        best();
        System.out.println(sentences + " sentences, " + checks + " answers, " + wrong + " not as due");
        if (wrong != 0) {
            System.exit(1);
        }
    }
}
