import java.util.function.IntToLongFunction;

/**
 * The promises 1 to 26 of the document: every sentence that names a boundary case has a test of its own here, in the
 * document's order. The words of the sentence stand first in each test.
 */
public final class PromiseEdgeTest {
    private static final int NONE = -1;
    private static final int MIN = Integer.MIN_VALUE;
    private static final int MAX = Integer.MAX_VALUE;
    /** Two who meet on step 2, and one without a walk; both change their shoes when all is over. */
    private static final String STAIR = "steps 6;keep 2;carpet 2 1;flat 0 0;flat 5 1;person 1 1 1;person 0 1 1;person 4 2 3;"
        + "walk 0 0 0 3;walk 1 1 3 0;change 0 50 7;change 1 60 8;";
    private static final String SOUNDS = "heard 0 1 1 -;heard 0 2 1 1;heard 1 4 1 -;";
    /** Numbers that no call takes, but for drawn's seed and as bits. */
    private static final int[] FAR_OFF = {MIN, MIN + 1, -1000000, -1000, 1000, 1000000, MAX - 1, MAX};

    private static int checks = 0;
    private static int wrong = 0;
    private static int sentences = 0;
    private static String sentence = "";

    private static void says(String words) {
        sentences++;
        sentence = words;
    }

    private static void due(String call, long got, long want) {
        checks++;
        if (got != want) {
            wrong++;
            System.out.println("'" + sentence + "': " + call + " answered " + got + ", due is " + want);
        }
    }

    private static void due(String call, boolean got, boolean want) {
        due(call, got ? 1 : 0, want ? 1 : 0);
    }

    /** The tape is this text and nothing else. */
    private static void give(EchoStair x, String text) {
        x.end(0);
        for (int i = 0; i < text.length(); i += 20) {
            int[] five = new int[5];
            for (int j = 0; j < 20; j++) {
                int sign = i + j < text.length() ? text.charAt(i + j) : 0;
                five[j / 4] = five[j / 4] << 8 | sign;
            }
            x.feed(five[0], five[1], five[2], five[3], five[4]);
        }
        x.end(text.length());
    }

    private static int tell(EchoStair x, int sort, int at, String text) {
        give(x, text);
        return x.text(sort, at);
    }

    private static EchoStair house(String text) {
        EchoStair x = new EchoStair();
        due("text of " + text, tell(x, 0, NONE, text), 0);
        return x;
    }

    private static EchoStair stair() {
        EchoStair x = house(STAIR);
        due("text of " + SOUNDS, tell(x, 1, NONE, SOUNDS), 0);
        return x;
    }

    /** How many bytes the tape has: one more than that is refused, and changes nothing. */
    private static void dueSize(EchoStair x, int size) {
        due("end(" + (size + 1) + ")", x.end(size + 1), NONE);
        due("end(" + size + ")", x.end(size), size);
    }

    private static boolean stands(int[] row, int number) {
        for (int one : row) {
            if (one == number) {
                return true;
            }
        }
        return false;
    }

    /** The answer to every number but those that are taken: from -20 to 220, and numbers far off. */
    private static void others(String name, IntToLongFunction call, long want, int... taken) {
        for (int n = -20; n <= 220; n++) {
            if (!stands(taken, n)) {
                due(name + " " + n, call.applyAsLong(n), want);
            }
        }
        for (int n : FAR_OFF) {
            due(name + " " + n, call.applyAsLong(n), want);
        }
    }

    /** The numbers from first to last and those of the row. */
    private static int[] span(int first, int last, int... row) {
        int[] all = new int[last - first + 1 + row.length];
        for (int i = 0; i < all.length; i++) {
            all[i] = i < row.length ? row[i] : first + i - row.length;
        }
        return all;
    }

    /** Answers to 0, 1, 2, .. */
    private static void answers(String name, IntToLongFunction call, long... want) {
        for (int n = 0; n < want.length; n++) {
            due(name + " " + n, call.applyAsLong(n), want[n]);
        }
    }

    private static void constants() {
        says("The constants: `NONE = -1`: There is none.");
        due("NONE", EchoStair.NONE, -1);
    }

    private static void newObject() {
        says("1: No HOUSES, READINGS; no images.");
        EchoStair x = new EchoStair();
        due("count(0)", x.count(0), 0);
        due("count(1)", x.count(1), 0);
        due("again(0)", x.again(0), false);
        due("again(1)", x.again(1), false);
        due("again(2)", x.again(2), false);
        due("the tape is empty", x.end(1), NONE);
        due("no fault", x.fault(0), 0);
        due("no place", x.fault(1), NONE);
        due("house", x.house(0, 0), NONE);
        due("person", x.person(0, 0, 0), -2);
        due("tread", x.tread(0, NONE, 0), -2);
        due("where", x.where(0, 0, 0), -2);
        due("note", x.note(0, 0, NONE, 0), -2);
        due("ends", x.ends(0, 0), NONE);
        due("home", x.home(0, 0, 0, 0, 0, 0, 0), NONE);
        due("thief", x.thief(0, 0, 0, 0, 0, 0), NONE);
        due("apart", x.apart(0, 0), NONE);
        due("worth", x.worth(0, 0, 1), -2);
        due("best", x.worth(0, NONE, 1), -2);
        due("sound", x.sound(0, NONE, 0), -2);
        due("makers", x.makers(0, 0, NONE), -2);
        due("track", x.track(0, 0, 0), NONE);
        due("spots", x.spots(0, 0, 0, NONE), -2);
        due("drawn", x.drawn(0, 1, 50, 0), NONE);
        due("ring", x.ring(0, NONE), NONE);
        due("meet", x.meet(0, 0, 1, false), NONE);
        due("pass", x.meet(0, 0, 1, true), NONE);
        due("look", x.look(0, 0), -2);
    }

    private static void feedComes() {
        says("2: The tape: twenty bytes come behind it, of each number the highest first: how many it has.");
        EchoStair x = new EchoStair();
        due("the first twenty", x.feed(0x73746570, 0x73203320, 0x3b6b6565, 0x70203735, 0x3b202020), 20);
        due("twenty behind them", x.feed(0x63617270, 0x65742032, 0x20393b0a, 0x0a0a0a0a, 0x66666666), 40);
        due("cut", x.end(36), 36);
        due("the text of both", x.text(0, NONE), 0);
        due("steps", x.house(0, 0), 3);
        due("keep", x.house(0, 1), 75);
        due("carpet", x.house(0, 102), 9);
        due("behind a text", x.feed(0x20202020, 0x20202020, 0x20202020, 0x20202020, 0x202020ff), 20);
        due("the last byte is the last", x.text(0, 0), NONE);
        due("its place", x.fault(1), 19);
        x.feed(0x80202020, 0, 0, 0, 0);
        due("the first byte is the first", x.text(0, 0), NONE);
        due("its place", x.fault(1), 0);
        give(x, "keep 1");
        due("behind six", x.feed(0x323b2020, 0x20202020, 0x20202020, 0x20202020, 0x20202020), 26);
        due("one text", x.text(0, 0), 0);
        due("keep", x.house(0, 1), 12);
    }

    private static void feedFull() {
        says("2: NONE, and nothing comes, if there would be more than 600.");
        EchoStair x = new EchoStair();
        for (int i = 1; i <= 30; i++) {
            due("feed " + i, x.feed(0x20202020, 0x20202020, 0x20202020, 0x20202020, 0x20202020), 20 * i);
        }
        due("620", x.feed(-1, -1, -1, -1, -1), NONE);
        dueSize(x, 600);
        due("nothing came", x.end(581), 581);
        due("601", x.feed(-1, -1, -1, -1, -1), NONE);
        due("601 again", x.feed(-1, -1, -1, -1, -1), NONE);
        dueSize(x, 581);
        due("all are blanks still", x.text(0, NONE), 0);
        for (int i = 0; i < 29; i++) {
            x.feed(0x20202020, 0x20202020, 0x20202020, 0x20202020, 0x20202020);
        }
        due("600 are not more than 600", x.feed(0x20202020, 0x20202020, 0x20202020, 0x20202020, 0x20202020), 600);
        due("and are read", x.text(0, 0), 0);
    }

    private static void endCuts() {
        says("3: The tape has its first n bytes alone: n.");
        EchoStair x = new EchoStair();
        due("none of none", x.end(0), 0);
        give(x, "keep 12;!!!!");
        due("8 of 12", x.end(8), 8);
        due("their text", x.text(0, NONE), 0);
        due("keep", x.house(0, 1), 12);
        give(x, "keep 12;");
        due("all of them", x.end(8), 8);
        due("again", x.end(8), 8);
        due("0", x.end(0), 0);
        due("an empty text", x.text(0, 0), 0);
        due("keep at first", x.house(0, 1), 60);
        give(x, "keep 12;");
        due("7 of 8", x.end(7), 7);
        due("the eighth is gone", x.end(8), NONE);
        due("a text that ends", x.text(0, 0), NONE);
        due("at 7", x.fault(1), 7);
        // What stood behind the first n is no part of the last token.
        give(x, "keepx 1;");
        x.end(4);
        due("a word that ends", x.text(0, 0), NONE);
        due("at 4", x.fault(1), 4);
        give(x, "keep 123;");
        x.end(7);
        due("a number that ends", x.text(0, 0), NONE);
        due("at 7", x.fault(1), 7);
        give(x, "keep 1  ;");
        x.end(6);
        due("no blanks behind it", x.text(0, 0), NONE);
        due("at 6", x.fault(1), 6);
        give(x, "carpet 12 1;    ");
        x.end(12);
        due("a step that is not there", x.text(0, 0), NONE);
        due("at 12", x.fault(1), 12);
    }

    private static void endRefused() {
        says("3: NONE if it has not so many, or n is below 0.");
        EchoStair x = new EchoStair();
        due("1 of none", x.end(1), NONE);
        due("-1 of none", x.end(-1), NONE);
        give(x, "keep 12;");
        for (int n : new int[] {9, 20, 600, MAX, -1, -2, MIN}) {
            due("end(" + n + ")", x.end(n), NONE);
        }
        dueSize(x, 8);
        due("nothing changed", x.text(0, NONE), 0);
        due("keep", x.house(0, 1), 12);
    }

    private static void textTakesTheTape() {
        says("4: The tape is taken (and is empty then) as a text of a sort");
        EchoStair x = new EchoStair();
        due("a house", tell(x, 0, NONE, "keep 12;"), 0);
        dueSize(x, 0);
        due("a reading", tell(x, 1, NONE, "heard 0 0 0 -;"), 0);
        dueSize(x, 0);
        due("a fault", tell(x, 0, NONE, "keep 12"), NONE);
        dueSize(x, 0);
        due("no such sort", tell(x, 2, NONE, "keep 12;"), -2);
        dueSize(x, 0);
        due("none such", tell(x, 0, 1, "keep 12;"), -2);
        dueSize(x, 0);
        due("a second house", tell(x, 0, NONE, "keep 13;"), 1);
        due("as many as may be", tell(x, 0, NONE, "keep 14;"), -2);
        dueSize(x, 0);
        due("nothing of it is left", x.text(0, 0), 0);
        due("an empty text's keep", x.house(0, 1), 60);
    }

    private static void textIsTold() {
        says("4: a further one (at NONE), or in the place of one: its number.");
        EchoStair x = new EchoStair();
        due("a further house", tell(x, 0, NONE, "keep 1;carpet 0 5;flat 0 0;"), 0);
        due("in its place", tell(x, 0, 0, "keep 2;"), 0);
        due("there is one", x.count(0), 1);
        due("keep", x.house(0, 1), 2);
        due("nothing of the former one", x.house(0, 100), 0);
        due("nor its flat", x.house(0, 2), 0);
        due("a second one", tell(x, 0, NONE, "keep 3;"), 1);
        due("in its place", tell(x, 0, 1, "keep 4;"), 1);
        due("in the first's", tell(x, 0, 0, "keep 5;"), 0);
        due("there are two", x.count(0), 2);
        due("keep of 0", x.house(0, 1), 5);
        due("keep of 1", x.house(1, 1), 4);
        due("a further reading", tell(x, 1, NONE, "heard 0 0 0 -;heard 0 0 0 -;"), 0);
        due("in its place", tell(x, 1, 0, "heard 1 1 1 1;"), 0);
        due("sounds", x.sound(0, NONE, 0), 1);
        due("a second reading", tell(x, 1, NONE, ""), 1);
        due("there are two", x.count(1), 2);
    }

    /** Answers to questions of all kinds about house 0 and reading 0: 194 calls, so that two rounds stay below 512. */
    private static long[] askAll(EchoStair x) {
        long[] all = new long[300];
        int n = 0;
        for (int what = 0; what < 5; what++) {
            all[n++] = x.house(0, what);
        }
        for (int p = 0; p < 6; p++) {
            all[n++] = x.person(0, p, 0);
            all[n++] = x.person(0, p, 5);
            all[n++] = x.person(0, p, 6);
            all[n++] = x.person(0, p, 7);
            all[n++] = x.person(0, p, 150);
            all[n++] = x.where(0, p, 9);
            all[n++] = x.apart(0, 10 + p);
            all[n++] = x.track(0, 0, p);
            all[n++] = x.spots(0, 0, p, 0);
            all[n++] = x.spots(0, 0, p, NONE);
            all[n++] = x.drawn(0, 1, 50, 10 + p);
            all[n++] = x.look(0, 30 + p);
            all[n++] = x.look(0, 40 + p);
            all[n++] = x.home(0, p, 0, 2, 0, 1, 0);
            all[n++] = x.thief(0, p, 0, 2, 0, 0);
            all[n++] = x.thief(0, p, 0, 2, 0, 1);
            all[n++] = x.meet(0, 0, p, true);
            all[n++] = x.meet(0, p, 1, false);
        }
        for (int f = 0; f < 6; f++) {
            all[n++] = x.note(0, f, NONE, 0);
            all[n++] = x.note(0, f, NONE, 1);
            all[n++] = x.note(0, f, 2, 0);
            all[n++] = x.note(0, f, 5, 0);
            all[n++] = x.drawn(0, 1, 50, 20 + f);
            all[n++] = x.look(0, 10 + f);
            all[n++] = x.look(0, 20 + f);
        }
        for (int what = 0; what < 3; what++) {
            all[n++] = x.ends(0, what);
            all[n++] = x.look(0, what);
            all[n++] = x.worth(0, what, 1);
            all[n++] = x.makers(0, 0, what);
        }
        for (int k = NONE; k < 5; k++) {
            all[n++] = x.tread(0, k, 0);
            all[n++] = x.tread(0, k, 7);
            all[n++] = x.ring(0, k);
            all[n++] = x.sound(0, k, 0);
        }
        all[n++] = x.apart(0, 0);
        all[n++] = x.worth(0, NONE, 2);
        all[n++] = x.makers(0, 0, NONE);
        return all;
    }

    private static void nothingIsLeft() {
        says("4: or in the place of one");
        String loud = "steps 24;keep 99;flat 0 9;flat 5 9;flat 9 9;flat 14 9;flat 19 9;flat 23 9;"
            + "person 9 9 1;person 8 8 1;person 7 7 1;person 6 6 1;person 5 5 1;person 4 4 4;"
            + "walk 0 0 0 23 0 23 0 23 0 23 0;walk 1 0 0 23 0 23 0 23 0 23 0;walk 2 0 0 23 0 23 0 23 0 23 0;"
            + "walk 3 0 0 23 0 23 0 23 0 23 0;walk 4 0 0 23 0 23 0 23 0 23 0;walk 5 0 0 23 1 23 1 23 1 23 1;"
            + "change 0 9 1;change 1 9 1;change 2 9 1;change 3 9 1;carpet 1 9;carpet 22 9;";
        String two = "steps 4;flat 0 9;person 9 9 4;person 9 9 4;walk 0 0 2 2;walk 1 1 2 2;";
        String[] soft = {"", "steps 3;flat 0 0;flat 2 0;person 0 1 1;person 1 1 1;walk 0 0 0 1;walk 1 1 1 1;",
            "steps 4;keep 0;carpet 0 9;carpet 3 9;flat 3 1;person 4 2 1;person 0 3 1;person 0 3 1;walk 1 0 0 0;walk 2 60 3 2;",
            "steps 4;flat 0 9;person 9 9 4;person 1 1 4;walk 0 0 2 2;"};
        for (String text : soft) {
            dueNothingLeft(loud, text);
            dueNothingLeft(two, text);
        }
    }

    /** All answers about a house in the place of a former one are those about the same house in a new object. */
    private static void dueNothingLeft(String former, String text) {
        EchoStair fresh = house(text);
        tell(fresh, 1, NONE, "heard 0 1 1 7;");
        EchoStair used = house(former);
        tell(used, 1, NONE, "heard 0 1 9 -;heard 1 2 9 9;heard 2 3 9 8;heard 3 4 9 -;heard 4 5 9 -;heard 5 6 9 -;");
        long[] before = askAll(used);
        due("in its place", tell(used, 0, 0, text), 0);
        due("in its place", tell(used, 1, 0, "heard 0 1 1 7;"), 0);
        long[] want = askAll(fresh);
        long[] got = askAll(used);
        int others = 0;
        for (int i = 0; i < want.length; i++) {
            due("question " + i + " of all about " + text, got[i], want[i]);
            others += before[i] == want[i] ? 0 : 1;
        }
        due("the former house was another one", others > 20, true);
    }

    private static void houseByHouse() {
        says("4: a further one (at NONE)");
        // Two houses with the same errands and reckonings, asked in turn.
        EchoStair x = house("steps 24;flat 0 9;person 0 1 1;person 0 1 1;person 0 1 1;walk 0 0 0 0;walk 1 0 1 1;walk 2 0 1 1;"
            + "carpet 23 1;change 0 1 1;");
        due("a second house", tell(x, 0, NONE, "steps 3;flat 0 9;person 0 1 2;person 0 1 1;person 0 1 1;walk 0 0 2 2;"), 1);
        due("no changes in it", x.house(1, 4), 0);
        for (int i = 0; i < 2; i++) {
            due("home in 0", x.home(0, 0, 0, 2, 0, 0, 0), 2);
            due("home in 1", x.home(1, 0, 0, 2, 0, 0, 0), 1);
            due("shoes in 0", x.apart(0, 0), 3);
            due("shoes in 1", x.apart(1, 0), 1);
            due("busy in 0", x.look(0, 1), 1);
            due("busy in 1", x.look(1, 1), 2);
            due("best in 0", x.worth(0, NONE, 1), 1);
            due("best in 1", x.worth(1, NONE, 1), 2);
            due("treads in 0", x.tread(0, NONE, 0), 3);
            due("treads in 1", x.tread(1, NONE, 0), 1);
        }
        due("the same errand in a house told anew", x.home(1, 0, 0, 2, 0, 0, 0), 1);
        due("told anew", tell(x, 0, 1, "steps 3;flat 0 9;person 0 1 1;"), 1);
        due("home", x.home(1, 0, 0, 2, 0, 0, 0), 2);
        due("a thief", x.thief(1, 0, 0, 2, 0, 0), 2);
        due("told anew", tell(x, 0, 1, "steps 3;person 0 1 1;"), 1);
        due("a thief whom nobody hears", x.thief(1, 0, 0, 2, 0, 0), 0);
        due("the very first errand", house("person 0 1 1;").home(0, 0, 0, 0, 0, 0, 0), 0);
        due("the very first thief", house("person 0 1 1;").thief(0, 0, 0, 0, 0, 1), 0);
    }

    private static void textWithAFault() {
        says("4: NONE: a FAULT.");
        EchoStair x = stair();
        String[] faulty = {"!", "steps 1;", "flat 1 1;flat 1 1;flat 1 1;flat 1 1;flat 1 1;flat 1 1;flat 1 1;", "keep 9;flat 12 1;"};
        for (int i = 0; i < faulty.length; i++) {
            due("a further one", tell(x, 0, NONE, faulty[i]), NONE);
            due("its fault", x.fault(0), i + 1);
            due("in the place of 0", tell(x, 0, 0, faulty[i]), NONE);
            due("its fault", x.fault(0), i + 1);
            due("there is one house", x.count(0), 1);
            due("keep is as it was", x.house(0, 1), 2);
            due("treads are as they were", x.tread(0, NONE, 0), 8);
        }
        due("a reading", tell(x, 1, 0, "heard 0 0 0 -;heard 6 0 0 -;"), NONE);
        due("is as it was", x.sound(0, NONE, 0), 3);
        due("a further reading", tell(x, 1, NONE, "heard"), NONE);
        due("there is one", x.count(1), 1);
    }

    private static void textRefused() {
        says("4: -2: there is none such, there are as many as may be, or no such sort (no text is read then, FAULT 0).");
        int[][] none = {{0, 0}, {0, 1}, {0, 2}, {0, -2}, {0, MIN}, {0, MAX}, {1, 0}, {1, 1}, {1, -2}, {1, MIN}, {1, MAX},
            {2, NONE}, {2, 0}, {-1, NONE}, {-1, 0}, {MIN, NONE}, {MAX, 0}};
        EchoStair x = new EchoStair();
        for (int[] call : none) {
            due("a fault", tell(x, 0, NONE, "!"), NONE);
            due("text(" + call[0] + ", " + call[1] + ")", tell(x, call[0], call[1], "!"), -2);
            due("no fault", x.fault(0), 0);
            due("no place", x.fault(1), NONE);
        }
        due("no houses", x.count(0), 0);
        due("no readings", x.count(1), 0);
        EchoStair y = house("keep 1;");
        due("no house 1 yet", tell(y, 0, 1, "keep 2;"), -2);
        due("there is one", y.count(0), 1);
        tell(y, 0, NONE, "keep 3;");
        due("a third", tell(y, 0, NONE, "!"), -2);
        due("no fault", y.fault(0), 0);
        due("house 2", tell(y, 0, 2, "keep 4;"), -2);
        due("in the place of 1", tell(y, 0, 1, "keep 5;"), 1);
        due("keep", y.house(1, 1), 5);
        tell(y, 1, NONE, "");
        tell(y, 1, NONE, "");
        due("a third reading", tell(y, 1, NONE, "!"), -2);
        due("no fault", y.fault(0), 0);
        due("two are there", y.count(1), 2);
    }

    private static void faultOfTheLatest() {
        says("5: Of the latest text(), what 0: the FAULT, 0 without, 1: its place, NONE without.");
        EchoStair x = new EchoStair();
        due("without a text", x.fault(0), 0);
        due("no place", x.fault(1), NONE);
        tell(x, 0, NONE, "steps 3;steps 1;");
        due("a fault", x.fault(0), 2);
        due("its place", x.fault(1), 14);
        give(x, "steps 3;");
        x.image(0);
        due("a feed is no text", x.fault(0), 2);
        due("its place stays", x.fault(1), 14);
        due("a text without a fault", x.text(0, NONE), 0);
        due("no fault", x.fault(0), 0);
        due("no place", x.fault(1), NONE);
        tell(x, 1, NONE, "x");
        due("a reading's", x.fault(0), 1);
        due("its place 0", x.fault(1), 0);
        tell(x, 1, NONE, "");
        due("none", x.fault(0), 0);
        due("no place", x.fault(1), NONE);
    }

    private static void faultOfAnotherWhat() {
        says("5: NONE for another what.");
        EchoStair x = new EchoStair();
        tell(x, 0, NONE, "steps 1;");
        others("fault", n -> x.fault(n), NONE, 0, 1);
    }

    private static void houseTold() {
        says("6: Of a HOUSE, what 0: STEPS, 1: KEEP, 2: FLATS, 3: PEOPLE, 4: CHANGES, 10 + k, 20 + k: STEP, EAR of FLAT k,"
            + " 30 + k, 40 + k, 50 + k: one, minute, SHOE of CHANGE k, 100 + s: CARPET of STEP s.");
        EchoStair x = stair();
        answers("house(0, ..)", n -> x.house(0, n), 6, 2, 2, 3, 2);
        answers("steps of flats", n -> x.house(0, 10 + n), 0, 5, NONE);
        answers("ears of flats", n -> x.house(0, 20 + n), 0, 1, NONE);
        answers("ones of changes", n -> x.house(0, 30 + n), 0, 1, NONE);
        answers("minutes of changes", n -> x.house(0, 40 + n), 50, 60, NONE);
        answers("shoes of changes", n -> x.house(0, 50 + n), 7, 8, NONE);
        answers("carpets", n -> x.house(0, 100 + n), 0, 0, 1, 0, 0, 0, NONE);
        EchoStair y = house("steps 24;flat 0 1;flat 1 2;flat 2 3;flat 3 4;flat 4 5;flat 23 9;person 0 1 1;change 0 1 2;"
            + "change 0 3 4;change 0 5 6;change 0 7 8;change 0 9 0;change 0 1 1;change 0 2 2;change 0 99 9;carpet 23 9;");
        answers("steps of six", n -> y.house(0, 10 + n), 0, 1, 2, 3, 4, 23, NONE, NONE, NONE, NONE);
        answers("ears of six", n -> y.house(0, 20 + n), 1, 2, 3, 4, 5, 9, NONE, NONE, NONE, NONE);
        answers("ones of eight", n -> y.house(0, 30 + n), 0, 0, 0, 0, 0, 0, 0, 0, NONE, NONE);
        answers("minutes of eight", n -> y.house(0, 40 + n), 1, 3, 5, 7, 9, 1, 2, 99, NONE, NONE);
        answers("shoes of eight", n -> y.house(0, 50 + n), 2, 4, 6, 8, 0, 1, 2, 9, NONE, NONE);
        due("carpet of 23", y.house(0, 123), 9);
        due("none of 24", y.house(0, 124), NONE);
    }

    private static void houseNone() {
        says("6: NONE: there is none such, or for another what.");
        EchoStair x = stair();
        int[] taken = span(100, 105, 0, 1, 2, 3, 4, 10, 11, 20, 21, 30, 31, 40, 41, 50, 51);
        others("house(0, ..)", n -> x.house(0, n), NONE, taken);
        EchoStair y = stair();
        others("house", n -> y.house(n, 0), NONE, 0);
    }

    private static void personTold() {
        says("7: Of one of PEOPLE, what 0: SHOE at first, 1: WEIGHT, 2: RISE, 3: minute of his WALK (NONE), 4: its STEP (NONE),"
            + " 5: how many GOALS (0 without), 6: his last TREAD's minute (NONE), 7: the STEP he is on at the end (NONE),"
            + " 10 + k: GOAL k, 100 + t: SHOE in minute t, 0 .. 99.");
        EchoStair x = stair();
        answers("person 0", n -> x.person(0, 0, n), 1, 1, 1, 0, 0, 1, 3, 3, -2);
        answers("person 1", n -> x.person(0, 1, n), 0, 1, 1, 1, 3, 1, 4, 0, -2);
        answers("one without a walk", n -> x.person(0, 2, n), 4, 2, 3, NONE, NONE, 0, NONE, NONE, -2);
        answers("goals of 0", n -> x.person(0, 0, 10 + n), 3, -2);
        answers("goals of one without a walk", n -> x.person(0, 2, 10 + n), -2);
        int[][] shoes = {{0, 1}, {49, 1}, {50, 7}, {99, 7}, {100, -2}};
        for (int[] one : shoes) {
            due("shoe in " + one[0], x.person(0, 0, 100 + one[0]), one[1]);
        }
        EchoStair y = house("steps 24;person 0 1 1;walk 0 60 0 23 0 1 2 3 4 5 6;");
        answers("eight goals", n -> y.person(0, 0, 10 + n), 23, 0, 1, 2, 3, 4, 5, 6, -2, -2);
        due("last tread in the last minute", y.person(0, 0, 6), 99);
        due("at the end on his way", y.person(0, 0, 7), 7);
        EchoStair z = house("person 0 1 1;walk 0 0 0 0;");
        due("last tread in the first minute", z.person(0, 0, 6), 0);
        due("on step 0", z.person(0, 0, 7), 0);
    }

    private static void personNone() {
        says("7: -2: there is none such (of either), or for another what.");
        EchoStair x = stair();
        others("person(0, 0, ..)", n -> x.person(0, 0, n), -2, span(100, 199, 0, 1, 2, 3, 4, 5, 6, 7, 10));
        EchoStair y = stair();
        others("person", n -> y.person(0, n, 0), -2, 0, 1, 2);
        EchoStair z = stair();
        others("house of person", n -> z.person(n, 0, 0), -2, 0);
    }

    private static void treadTold() {
        says("8: How many TREADS (k NONE, what 0); of TREAD k, what 0: who, 1: STEP, 2: minute, 3: SHOE, 4: LOUD,"
            + " 5: its ECHO (the number of that TREAD; NONE), 6: FLATS that HEAR it (bits), 7: that HEAR its ECHO.");
        EchoStair x = stair();
        due("how many", x.tread(0, NONE, 0), 8);
        long[][] all = {{0, 0, 0, 1, 2, NONE, 1, 0, -2}, {0, 1, 1, 1, 2, NONE, 1, 0, -2}, {1, 3, 1, 0, 1, NONE, 2, 0, -2},
            {0, 2, 2, 1, 1, NONE, 0, 0, -2}, {1, 2, 2, 0, 0, 3, 0, 0, -2}, {0, 3, 3, 1, 2, 2, 2, 0, -2},
            {1, 1, 3, 0, 1, 1, 1, 1, -2}, {1, 0, 4, 0, 1, NONE, 1, 0, -2}};
        for (int k = 0; k < all.length; k++) {
            int number = k;
            answers("tread " + k, n -> x.tread(0, number, n), all[k]);
        }
        due("none", house("person 0 1 1;").tread(0, NONE, 0), 0);
        EchoStair six = house("flat 0 9;flat 0 9;flat 0 9;flat 0 9;flat 0 9;flat 0 9;person 9 9 1;walk 0 0 0 1 0;");
        due("six flats hear it", six.tread(0, 2, 6), 63);
        due("and its echo", six.tread(0, 2, 7), 63);
    }

    private static void treadNone() {
        says("8: -2: there is none such (of either), or for another what.");
        EchoStair x = stair();
        others("tread(0, 0, ..)", n -> x.tread(0, 0, n), -2, 0, 1, 2, 3, 4, 5, 6, 7);
        for (int what = 0; what < 8; what++) {
            EchoStair y = stair();
            int asked = what;
            others("tread, what " + what, n -> y.tread(0, n, asked), -2, span(what == 0 ? NONE : 0, 7));
        }
        EchoStair z = stair();
        others("how many, another what", n -> z.tread(0, NONE, n), -2, 0);
        EchoStair h = stair();
        others("house of treads", n -> h.tread(n, NONE, 0), -2, 0);
        due("of no treads", house("").tread(0, 0, 0), -2);
    }

    private static void whereTold() {
        says("9: The STEP one is on in a minute, 0 .. 99. NONE: he has not begun, or has no WALK.");
        EchoStair x = stair();
        answers("where of 1", n -> x.where(0, 1, n), NONE, 3, 2, 1, 0, 0, 0);
        due("in the last minute", x.where(0, 1, 99), 0);
        due("0 in the first", x.where(0, 0, 0), 0);
        due("one without a walk", x.where(0, 2, 0), NONE);
        due("at the end, too", x.where(0, 2, 99), NONE);
        EchoStair y = house("person 0 1 1;walk 0 60 4 4;");
        due("in 59", y.where(0, 0, 59), NONE);
        due("in 60", y.where(0, 0, 60), 4);
    }

    private static void whereNone() {
        says("9: -2: there is none such (of any).");
        EchoStair x = stair();
        others("minute", n -> x.where(0, 0, n), -2, span(0, 99));
        EchoStair y = stair();
        others("person", n -> y.where(0, n, 5), -2, 0, 1, 2);
        EchoStair z = stair();
        others("house", n -> z.where(n, 0, 5), -2, 0);
        due("minute 100 of one without a walk", z.where(0, 2, 100), -2);
    }

    private static void noteTold() {
        says("10: How many NOTES a FLAT has (k NONE, what 0), how many GHOSTS (k NONE, what 1); of NOTE k, what 0: its TREAD's"
            + " number, 1: SHOE (NONE: not HEARD), 2: the ECHO's SHOE (NONE), 3: 1 for a GHOST, else 0.");
        EchoStair x = stair();
        due("notes of 0", x.note(0, 0, NONE, 0), 4);
        due("ghosts of 0", x.note(0, 0, NONE, 1), 0);
        due("notes of 1", x.note(0, 1, NONE, 0), 2);
        long[][] low = {{0, 1, NONE, 0, -2}, {1, 1, NONE, 0, -2}, {6, 0, 1, 0, -2}, {7, 0, NONE, 0, -2}};
        for (int k = 0; k < low.length; k++) {
            int number = k;
            answers("note " + k + " of 0", n -> x.note(0, 0, number, n), low[k]);
        }
        answers("note 0 of 1", n -> x.note(0, 1, 0, n), 2, 0, NONE, 0, -2);
        answers("note 1 of 1", n -> x.note(0, 1, 1, n), 5, 1, NONE, 0, -2);
        EchoStair y = house("flat 0 0;carpet 0 1;person 9 1 1;person 0 1 1;walk 0 0 0 0;walk 1 1 0 0;");
        due("ghosts", y.note(0, 0, NONE, 1), 1);
        answers("a ghost, itself not heard", n -> y.note(0, 0, 1, n), 1, NONE, 9, 1, -2);
        EchoStair z = house("flat 0 0;");
        due("no notes", z.note(0, 0, NONE, 0), 0);
        due("no ghosts", z.note(0, 0, NONE, 1), 0);
    }

    private static void noteNone() {
        says("10: -2: there is none such (of any), or for another what.");
        EchoStair x = stair();
        others("what", n -> x.note(0, 0, 0, n), -2, 0, 1, 2, 3);
        EchoStair y = stair();
        others("what of all", n -> y.note(0, 0, NONE, n), -2, 0, 1);
        for (int what = 0; what < 4; what++) {
            EchoStair z = stair();
            int asked = what;
            others("note, what " + what, n -> z.note(0, 0, n, asked), -2, span(what < 2 ? NONE : 0, 3));
        }
        EchoStair f = stair();
        others("flat", n -> f.note(0, n, NONE, 0), -2, 0, 1);
        EchoStair h = stair();
        others("house", n -> h.note(n, 0, NONE, 0), -2, 0);
        due("of no notes", house("flat 0 0;").note(0, 0, 0, 0), -2);
    }

    private static void endsTold() {
        says("11: PEOPLE (bits) who end higher than they began (what 0), lower (1), of whom no FLAT HEARS any tread (2).");
        answers("ends", n -> stair().ends(0, n), 1, 2, 4, NONE);
        EchoStair x = house("person 0 1 1;person 0 1 1;person 0 1 1;person 0 1 1;person 0 1 1;person 0 1 1;"
            + "walk 0 0 5 5;walk 1 0 5 9 5;walk 2 0 5 6;walk 3 0 5 4;walk 5 0 0 1;");
        answers("who comes back is neither", n -> x.ends(0, n), 4 | 32, 8, 63, NONE);
        // Both are on their way down in minute 99: 0 on 4, above 3 where he began, 1 on 3, below 4.
        EchoStair y = house("steps 24;person 0 1 1;person 0 1 1;walk 0 60 3 23 0;walk 1 60 4 23 0;");
        answers("by where they are in minute 99", n -> y.ends(0, n), 1, 2, 3, NONE);
        EchoStair z = house("carpet 0 1;flat 0 9;person 0 1 1;person 9 1 1;walk 0 0 0 0;walk 1 0 11 11;");
        due("heard and not heard", z.ends(0, 2), 1);
        EchoStair e = house("carpet 0 1;flat 0 9;person 0 1 1;person 9 1 1;walk 1 0 0 0;walk 0 1 0 0;");
        due("its echo is heard, itself is not", e.ends(0, 2), 1);
        due("nobody", house("flat 0 9;").ends(0, 2), 0);
    }

    private static void endsNone() {
        says("11: NONE: there is none such, or for another what.");
        EchoStair x = stair();
        others("what", n -> x.ends(0, n), NONE, 0, 1, 2);
        EchoStair y = stair();
        others("house", n -> y.ends(n, 0), NONE, 0);
    }

    private static void homeTold() {
        says("12: HOME, what 0: minutes, 10 + i: the STEP behind the i-th one.");
        EchoStair x = stair();
        due("minutes", x.home(0, 1, 1, 3, 10, 1, 0), 2);
        answers("steps", n -> x.home(0, 1, 1, 3, 10, 1, 10 + n), 2, 3, NONE);
        EchoStair y = house("steps 2;keep 99;carpet 1 1;flat 1 0;person 0 1 1;person 0 9 1;walk 1 0 1 1;");
        due("60 minutes", y.home(0, 0, 0, 1, 40, 1, 0), 60);
        due("behind the first", y.home(0, 0, 0, 1, 40, 1, 10), 0);
        due("behind the last but one", y.home(0, 0, 0, 1, 40, 1, 68), 0);
        due("behind the last", y.home(0, 0, 0, 1, 40, 1, 69), 1);
        due("there is none behind it", y.home(0, 0, 0, 1, 40, 1, 70), NONE);
    }

    private static void homeNone() {
        says("12: NONE: up to 60 none, there is none such (of any; minute 0 .. 99), there are FLATS that are not there, or for"
            + " another what.");
        EchoStair none = house("steps 2;keep 99;carpet 1 1;flat 1 0;person 0 1 1;person 0 9 1;walk 1 0 1 1;");
        due("up to 60 none", none.home(0, 0, 0, 1, 39, 1, 0), NONE);
        due("nor a row", none.home(0, 0, 0, 1, 39, 1, 10), NONE);
        EchoStair h = stair();
        others("house", n -> h.home(n, 1, 1, 3, 10, 1, 0), NONE, 0);
        EchoStair p = stair();
        others("person", n -> p.home(0, n, 1, 1, 10, 1, 0), NONE, 0, 1, 2);
        EchoStair from = stair();
        others("from", n -> from.home(0, 1, n, 3, 10, 0, 0), NONE, 0, 1, 2, 3, 4, 5);
        EchoStair to = stair();
        others("to", n -> to.home(0, 1, 1, n, 10, 0, 0), NONE, 0, 1, 2, 3, 4, 5);
        EchoStair m = stair();
        others("minute", n -> m.home(0, 1, 1, 3, n, 0, 0), NONE, span(0, 99));
        due("minute 0", m.home(0, 1, 1, 3, 0, 0, 0), 2);
        due("minute 99", m.home(0, 1, 1, 3, 99, 0, 0), 2);
        EchoStair f = stair();
        others("flats", n -> f.home(0, 1, 1, 1, 10, n, 0), NONE, 0, 1, 2, 3);
        due("all flats that are there", f.home(0, 1, 1, 1, 10, 3, 0), 0);
        EchoStair w = stair();
        others("what", n -> w.home(0, 1, 1, 3, 10, 1, n), NONE, 0, 10, 11);
        EchoStair here = stair();
        others("what, there already", n -> here.home(0, 1, 1, 1, 10, 1, n), NONE, 0);
        due("without flats", house("person 0 1 1;").home(0, 0, 0, 1, 0, 1, 0), NONE);
    }

    private static void thiefTold() {
        says("13: THIEF, what 0: treads HEARD and not COVERED, 1: minutes, 10 + i: the STEP behind the i-th one.");
        EchoStair x = stair();
        answers("in another's tread", n -> x.thief(0, 1, 0, 3, 0, n), 0, 3, NONE);
        answers("his steps", n -> x.thief(0, 1, 0, 3, 0, 10 + n), 1, 2, 3, NONE);
        answers("once heard", n -> x.thief(0, 1, 1, 3, 10, n), 1, 2, NONE);
        EchoStair y = house("steps 2;keep 0;flat 0 0;person 0 9 1;person 0 1 1;walk 1 60 1 1;");
        answers("60 minutes", n -> y.thief(0, 0, 0, 1, 0, n), 0, 60, NONE);
        due("behind the last but one", y.thief(0, 0, 0, 1, 0, 68), 0);
        due("behind the last", y.thief(0, 0, 0, 1, 0, 69), 1);
        due("there is none behind it", y.thief(0, 0, 0, 1, 0, 70), NONE);
    }

    private static void errandsInARow() {
        says("12: int home(int house, int person, int from, int to, int minute, int flats, int what)");
        // Each errand differs from the one ahead of it in one thing, and so does its answer.
        EchoStair x = house("flat 0 0;flat 11 0;person 0 1 1;person 9 1 4;change 1 5 0;");
        due("a second house", tell(x, 0, NONE, "flat 0 0;flat 11 0;person 0 1 2;person 9 1 4;change 1 5 0;"), 1);
        due("home", x.home(0, 0, 4, 8, 0, 0, 0), 4);
        due("in another house", x.home(1, 0, 4, 8, 0, 0, 0), 2);
        due("of another one", x.home(1, 1, 4, 8, 0, 0, 0), 1);
        due("from another step", x.home(1, 1, 3, 8, 0, 0, 0), 2);
        due("to another step", x.home(1, 1, 3, 4, 0, 0, 0), 1);
        due("by other flats", x.home(1, 1, 3, 4, 0, 1, 0), 5);
        due("in another minute", x.home(1, 1, 3, 4, 4, 1, 0), 1);
        due("to where he is heard", x.home(1, 1, 3, 1, 4, 1, 0), NONE);
        due("a thief", x.thief(1, 1, 3, 1, 4, 0), 1);
        due("home by all flats", x.home(1, 1, 3, 1, 4, 3, 0), NONE);
        due("a thief again", x.thief(1, 1, 3, 1, 4, 0), 1);
        due("home by the other flat", x.home(1, 1, 3, 1, 4, 2, 0), 1);
    }

    private static void thiefNone() {
        says("13: NONE: as home().");
        EchoStair h = stair();
        others("house", n -> h.thief(n, 1, 1, 3, 10, 0), NONE, 0);
        EchoStair p = stair();
        others("person", n -> p.thief(0, n, 1, 3, 10, 0), NONE, 0, 1, 2);
        EchoStair from = stair();
        others("from", n -> from.thief(0, 1, n, 3, 10, 0), NONE, 0, 1, 2, 3, 4, 5);
        EchoStair to = stair();
        others("to", n -> to.thief(0, 1, 1, n, 10, 0), NONE, 0, 1, 2, 3, 4, 5);
        EchoStair m = stair();
        others("minute", n -> m.thief(0, 1, 1, 3, n, 0), NONE, span(0, 99));
        due("minute 0, waiting for a cover", m.thief(0, 1, 1, 3, 0, 1), 3);
        due("minute 99", m.thief(0, 1, 1, 3, 99, 1), 2);
        EchoStair w = stair();
        others("what", n -> w.thief(0, 1, 1, 3, 10, n), NONE, 0, 1, 10, 11);
        EchoStair here = stair();
        others("what, there already", n -> here.thief(0, 1, 1, 1, 10, n), NONE, 0, 1);
    }

    private static void apartTold() {
        says("14: APART, what 0: how many SHOES, 10 + p: which one of these one has.");
        EchoStair x = stair();
        due("how many", x.apart(0, 0), 2);
        answers("which one", n -> x.apart(0, 10 + n), 0, 1, 0, NONE);
        EchoStair y = house("person 0 1 1;person 0 1 1;person 0 1 1;person 0 1 1;person 0 1 1;person 0 1 1;");
        due("nobody is heard", y.apart(0, 0), 1);
        answers("which one of one", n -> y.apart(0, 10 + n), 0, 0, 0, 0, 0, 0, NONE);
        EchoStair z = house("");
        due("nobody", z.apart(0, 0), 0);
        due("nobody has one", z.apart(0, 10), NONE);
    }

    private static void apartNone() {
        says("14: NONE: there is none such, or for another what.");
        EchoStair x = stair();
        others("what", n -> x.apart(0, n), NONE, 0, 10, 11, 12);
        EchoStair y = stair();
        others("house", n -> y.apart(n, 0), NONE, 0);
    }

    private static void worthTold() {
        says("15: WORTH of a CARPET so much thicker, 1 .. 9, on a STEP, or (step NONE) BEST.");
        EchoStair x = stair();
        // On 0, 1 and 3 one tread each is loud 2, which is heard as 1, too, and one is loud 1, whose echo is 1 at most.
        answers("1 thicker", n -> x.worth(0, n, 1), 1, 1, 0, 1, 0, 0, -2);
        due("2 thicker on 0", x.worth(0, 0, 2), 2);
        due("9 thicker on 0", x.worth(0, 0, 9), 2);
        due("best by 1", x.worth(0, NONE, 1), 0);
        due("best by 2", x.worth(0, NONE, 2), 0);
        due("best by 9", x.worth(0, NONE, 9), 0);
    }

    private static void worthNone() {
        says("15: -2: there is none such (of any).");
        EchoStair x = stair();
        others("thicker", n -> x.worth(0, 0, n), -2, span(1, 9));
        EchoStair best = stair();
        others("thicker of the best", n -> best.worth(0, NONE, n), -2, span(1, 9));
        EchoStair y = stair();
        others("step", n -> y.worth(0, n, 1), -2, span(NONE, 5));
        EchoStair z = stair();
        others("house", n -> z.worth(n, 0, 1), -2, 0);
    }

    private static void soundTold() {
        says("16: How many SOUNDS (k NONE, what 0); of SOUND k, what 0: FLAT, 1: minute, 2: SHOE, 3: ECHO (NONE).");
        EchoStair x = stair();
        due("how many", x.sound(0, NONE, 0), 3);
        answers("sound 0", n -> x.sound(0, 0, n), 0, 1, 1, NONE, -2);
        answers("sound 1", n -> x.sound(0, 1, n), 0, 2, 1, 1, -2);
        answers("sound 2", n -> x.sound(0, 2, n), 1, 4, 1, NONE, -2);
        tell(x, 1, NONE, "");
        due("none", x.sound(1, NONE, 0), 0);
    }

    private static void soundNone() {
        says("16: -2: there is none such (of either), or for another what.");
        EchoStair x = stair();
        others("what", n -> x.sound(0, 0, n), -2, 0, 1, 2, 3);
        EchoStair y = stair();
        others("what of all", n -> y.sound(0, NONE, n), -2, 0);
        for (int what = 0; what < 4; what++) {
            EchoStair k = stair();
            int asked = what;
            others("sound, what " + what, n -> k.sound(0, n, asked), -2, span(what == 0 ? NONE : 0, 2));
        }
        EchoStair z = stair();
        others("reading", n -> z.sound(n, NONE, 0), -2, 0);
        tell(z, 1, 0, "");
        due("of no sounds", z.sound(0, 0, 0), -2);
    }

    private static void makersTold() {
        says("17: MAKERS of a SOUND (bits), or (k NONE) LIE (bits).");
        EchoStair x = stair();
        answers("makers", n -> x.makers(0, 0, n), 1, 1, 1, -2);
        due("no lie", x.makers(0, 0, NONE), 0);
        tell(x, 1, NONE, "heard 0 1 0 -;heard 0 50 1 -;heard 0 50 7 -;heard 2 1 1 -;");
        answers("makers in the other reading", n -> x.makers(0, 1, n), 2, 0, 1, 0, -2);
        due("lies", x.makers(0, 1, NONE), 2 | 8);
    }

    private static void makersNone() {
        says("17: -2: there is none such (of any).");
        EchoStair h = stair();
        others("house", n -> h.makers(n, 0, 0), -2, 0);
        EchoStair r = stair();
        others("reading", n -> r.makers(0, n, NONE), -2, 0);
        EchoStair k = stair();
        others("sound", n -> k.makers(0, 0, n), -2, span(NONE, 2));
    }

    private static void trackTold() {
        says("18: TRACK of one: in how many ways.");
        EchoStair x = stair();
        answers("track", n -> x.track(0, 0, n), 2, 1, 1, NONE);
        tell(x, 1, 0, "heard 0 0 1 -;heard 1 0 1 -;");
        due("in none", x.track(0, 0, 0), 0);
    }

    private static void trackNone() {
        says("18: NONE: there is none such (of any).");
        EchoStair h = stair();
        others("house", n -> h.track(n, 0, 0), NONE, 0);
        EchoStair r = stair();
        others("reading", n -> r.track(0, n, 0), NONE, 0);
        EchoStair p = stair();
        others("person", n -> p.track(0, 0, n), NONE, 0, 1, 2);
    }

    private static void spotsTold() {
        says("19: SPOTS of SOUND k (bits; 0: he has not its SHOE, or none), or (k NONE) SURE.");
        EchoStair x = stair();
        answers("spots", n -> x.spots(0, 0, 0, n), 3, 2, 8, -2);
        due("sure", x.spots(0, 0, 0, NONE), 2);
        answers("he has not its shoe", n -> x.spots(0, 0, 1, n), 0, 0, 0, -2);
        due("nothing is sure of him", x.spots(0, 0, 1, NONE), 0);
        tell(x, 1, 0, "heard 0 0 1 -;heard 1 0 1 -;");
        answers("or none", n -> x.spots(0, 0, 0, n), 0, 0, -2);
        due("nothing is sure", x.spots(0, 0, 0, NONE), 0);
    }

    private static void spotsNone() {
        says("19: -2: there is none such (of any).");
        EchoStair h = stair();
        others("house", n -> h.spots(n, 0, 0, 0), -2, 0);
        EchoStair r = stair();
        others("reading", n -> r.spots(0, n, 0, NONE), -2, 0);
        EchoStair p = stair();
        others("person", n -> p.spots(0, 0, n, NONE), -2, 0, 1, 2);
        EchoStair k = stair();
        others("sound", n -> k.spots(0, 0, 0, n), -2, span(NONE, 2));
    }

    private static void drawnTold() {
        says("20: DRAWN, k 0 .. 100, what 0: TREADS, 1: all NOTES of all FLATS, 10 + p: the STEP of one at the end,"
            + " 20 + f: NOTES of FLAT f.");
        EchoStair x = house("flat 0 0;flat 11 3;person 0 1 1;person 2 1 3;");
        answers("drawn", n -> x.drawn(0, 5, 60, n), 59, 15 + 17, NONE);
        answers("steps", n -> x.drawn(0, 5, 60, 10 + n), 5, 11, NONE);
        answers("notes", n -> x.drawn(0, 5, 60, 20 + n), 15, 17, NONE);
        due("k 0", x.drawn(0, 5, 0, 0), 0);
        due("k 100", house("steps 9;person 0 1 1;").drawn(0, 1, 100, 0), 52);
    }

    private static void drawnNone() {
        says("20: NONE: there is none such, another k, or for another what.");
        EchoStair k = stair();
        others("k", n -> k.drawn(0, 1, n, 0), NONE, span(0, 100));
        EchoStair w = stair();
        others("what", n -> w.drawn(0, 1, 50, n), NONE, 0, 1, 10, 11, 12, 20, 21);
        EchoStair h = stair();
        others("house", n -> h.drawn(n, 1, 50, 0), NONE, 0);
    }

    private static void ringTold() {
        says("21: RING of a TREAD, or (k NONE) the longest.");
        EchoStair x = stair();
        answers("ring", n -> x.ring(0, n), 1, 1, 1, 1, 2, 2, 2, 1, NONE);
        due("the longest", x.ring(0, NONE), 2);
    }

    private static void ringNone() {
        says("21: NONE: there are no TREADS, there is none such (of either).");
        EchoStair x = house("person 0 1 1;");
        due("the longest of none", x.ring(0, NONE), NONE);
        due("of none", x.ring(0, 0), NONE);
        EchoStair k = stair();
        others("tread", n -> k.ring(0, n), NONE, span(NONE, 7));
        EchoStair h = stair();
        others("house", n -> h.ring(n, NONE), NONE, 0);
    }

    private static void meetTold() {
        says("22: MEET, or (pass) PASS.");
        EchoStair x = stair();
        due("meet", x.meet(0, 0, 1, false), 2);
        due("pass", x.meet(0, 0, 1, true), 1);
        due("the other way round", x.meet(0, 1, 0, true), 1);
        due("pass never", x.meet(0, 0, 2, true), 0);
    }

    private static void meetNone() {
        says("22: NONE: never (MEET), both are one, or there is none such (of any).");
        EchoStair x = stair();
        due("never", x.meet(0, 0, 2, false), NONE);
        for (int p = 0; p < 3; p++) {
            due("both are one", x.meet(0, p, p, false), NONE);
            due("both are one, pass", x.meet(0, p, p, true), NONE);
        }
        EchoStair a = stair();
        others("a", n -> a.meet(0, n, 1, true), NONE, 0, 2);
        EchoStair b = stair();
        others("b", n -> b.meet(0, 0, n, true), NONE, 1, 2);
        EchoStair h = stair();
        others("house", n -> h.meet(n, 0, 1, true), NONE, 0);
        EchoStair m = stair();
        others("b, not passing", n -> m.meet(0, 0, n, false), NONE, 1);
    }

    private static void lookTold() {
        says("23: What 0: HOLLOW, 1: BUSY (NONE without TREADS), 2: COPY, 10 + f: TELLS of a FLAT, 20 + f: MOVE of a FLAT,"
            + " 30 + p: HIRE of one (NONE: by none; without a WALK 9), 40 + p: LATE of one (NONE without a WALK).");
        EchoStair x = stair();
        answers("look", n -> x.look(0, n), 95, 0, 0, -2);
        answers("tells", n -> x.look(0, 10 + n), 2, 2, -2);
        answers("move", n -> x.look(0, 20 + n), 5, 5, -2);
        due("hire of one by none", x.look(0, 30), NONE);
        due("hire of one without a walk", x.look(0, 32), 9);
        due("none of 3", x.look(0, 33), -2);
        due("late of one without a walk", x.look(0, 42), NONE);
        due("none of 3", x.look(0, 43), -2);
        EchoStair y = house("flat 0 9;person 0 1 1;");
        due("busy without treads", y.look(0, 1), NONE);
        // Each of six flats hears of one on its own step, each in another shoe, who had better begin in the minute of his
        // softer shoe, but for the last, who is soft always.
        EchoStair z = house("steps 24;flat 0 0;flat 4 0;flat 8 0;flat 12 0;flat 16 0;flat 20 0;"
            + "person 1 1 1;person 1 1 1;person 1 1 1;person 1 1 1;person 1 1 1;person 0 1 1;"
            + "walk 0 0 0 0;walk 1 0 4 4;walk 2 0 8 8;walk 3 0 12 12;walk 4 0 16 16;walk 5 0 20 20;"
            + "carpet 0 1;carpet 4 1;carpet 8 1;carpet 12 1;carpet 16 1;carpet 20 1;"
            + "change 0 1 0;change 1 2 0;change 2 3 0;change 3 4 0;change 4 60 0;");
        answers("tells of six", n -> z.look(0, 10 + n), 1, 1, 1, 1, 1, 0, -2, -2, -2, -2);
        answers("move of six", n -> z.look(0, 20 + n), 2, 2, 2, 2, 2, 2, -2, -2, -2, -2);
        answers("hire of six", n -> z.look(0, 30 + n), 0, 0, 0, 0, 0, 0, -2, -2, -2, -2);
        answers("late of six", n -> z.look(0, 40 + n), 1, 2, 3, 4, 60, 0, -2, -2, -2, -2);
    }

    private static void lookNone() {
        says("23: -2: there is none such, or for another what.");
        EchoStair x = stair();
        others("what", n -> x.look(0, n), -2, 0, 1, 2, 10, 11, 20, 21, 30, 31, 32, 40, 41, 42);
        EchoStair y = stair();
        others("house", n -> y.look(n, 0), -2, 0);
    }

    private static void countTold() {
        says("24: How many there are of a sort.");
        EchoStair x = new EchoStair();
        for (int i = 0; i < 2; i++) {
            due("houses", x.count(0), i);
            due("readings", x.count(1), i);
            tell(x, 0, NONE, "");
            tell(x, 1, NONE, "");
        }
        due("two houses", x.count(0), 2);
        due("two readings", x.count(1), 2);
        tell(x, 0, NONE, "");
        tell(x, 1, 0, "");
        due("no more houses", x.count(0), 2);
        due("no more readings", x.count(1), 2);
    }

    private static void countNone() {
        says("24: -2 for another one.");
        EchoStair x = stair();
        others("count", n -> x.count(n), -2, 0, 1);
    }

    private static void imageTaken() {
        says("25: Image k (0 .. 2) is all that is told (the tape, the FAULT, too), as it is now: true");
        for (int k = 0; k < 3; k++) {
            EchoStair x = stair();
            tell(x, 0, NONE, "keep 9;!");
            give(x, "steps 7;");
            due("image", x.image(k), true);
            tell(x, 0, 0, "");
            tell(x, 0, NONE, "");
            tell(x, 1, 0, "");
            tell(x, 1, NONE, "");
            give(x, "steps");
            due("again", x.again(k), true);
            due("houses", x.count(0), 1);
            due("readings", x.count(1), 1);
            due("the house", x.house(0, 1), 2);
            due("its treads", x.tread(0, NONE, 0), 8);
            due("the reading", x.sound(0, NONE, 0), 3);
            due("the fault", x.fault(0), 1);
            due("its place", x.fault(1), 7);
            dueSize(x, 8);
            due("the tape", x.text(0, 0), 0);
            due("is as it was", x.house(0, 0), 7);
        }
        EchoStair y = stair();
        y.image(1);
        tell(y, 0, 0, "keep 9;");
        due("an image in the place of one", y.image(1), true);
        tell(y, 0, 0, "keep 8;");
        y.again(1);
        due("as it was at the later one", y.house(0, 1), 9);
        EchoStair z = new EchoStair();
        due("an image of nothing", z.image(0), true);
        tell(z, 0, NONE, "");
        due("again", z.again(0), true);
        due("nothing is there", z.count(0), 0);
    }

    private static void imageRefused() {
        says("25: false for another k.");
        EchoStair x = stair();
        for (int k : new int[] {-1, -2, 3, 4, MIN, MAX}) {
            due("image(" + k + ")", x.image(k), false);
            due("there is none such", x.again(k), false);
        }
        for (int k = 0; k < 3; k++) {
            due("nor one of 0 .. 2", x.again(k), false);
        }
        due("nothing changed", x.tread(0, NONE, 0), 8);
    }

    private static void againTold() {
        says("26: All that is as image k has it (other images stay): true");
        EchoStair x = new EchoStair();
        for (int k = 0; k < 3; k++) {
            tell(x, 0, k == 0 ? NONE : 0, "keep " + (k + 1) + ";");
            x.image(k);
        }
        for (int k : new int[] {0, 2, 1, 1, 0, 2}) {
            due("again(" + k + ")", x.again(k), true);
            due("keep", x.house(0, 1), k + 1);
        }
        tell(x, 0, 0, "keep 50;");
        due("what is told later does not change an image", x.again(2), true);
        due("keep", x.house(0, 1), 3);
        // Nor does what comes behind an again(): the tape, the reading and the fault of the image are its own.
        EchoStair t = new EchoStair();
        tell(t, 1, NONE, "heard 0 0 0 -;");
        tell(t, 1, NONE, "heard");
        give(t, "keep 12;");
        t.image(0);
        for (int i = 0; i < 2; i++) {
            due("again(0)", t.again(0), true);
            due("its fault", t.fault(0), 1);
            due("its place", t.fault(1), 5);
            due("its sounds", t.sound(0, NONE, 0), 1);
            dueSize(t, 8);
            due("its tape", t.text(0, NONE), 0);
            due("keep", t.house(0, 1), 12);
            tell(t, 1, 0, "");
            give(t, "steps 3;steps 3;");
        }
        // What was reckoned of the later house is not answered of the former one.
        EchoStair y = stair();
        y.image(0);
        due("home", y.home(0, 1, 1, 3, 10, 1, 0), 2);
        due("thief", y.thief(0, 1, 1, 3, 10, 0), 1);
        tell(y, 0, 0, "steps 6;person 1 1 1;person 0 1 4;");
        due("home of another house", y.home(0, 1, 1, 3, 10, 0, 0), 1);
        due("no treads", y.tread(0, NONE, 0), 0);
        due("home of another house", y.home(0, 1, 1, 3, 10, 0, 0), 1);
        due("again(0)", y.again(0), true);
        due("the same errand", y.home(0, 1, 1, 3, 10, 0, 0), 2);
        due("treads", y.tread(0, NONE, 0), 8);
    }

    private static void againRefused() {
        says("26: false if there is none such.");
        EchoStair x = stair();
        x.image(1);
        tell(x, 0, 0, "keep 9;");
        give(x, "keep 7;");
        for (int k : new int[] {0, 2, 3, -1, MIN, MAX}) {
            due("again(" + k + ")", x.again(k), false);
        }
        due("nothing changed", x.house(0, 1), 9);
        due("the tape neither", x.text(0, 0), 0);
        due("keep", x.house(0, 1), 7);
        due("there is image 1", x.again(1), true);
    }

    private static void ofTexts() {
        constants();
        newObject();
        feedComes();
        feedFull();
        endCuts();
        endRefused();
        textTakesTheTape();
        textIsTold();
        nothingIsLeft();
        houseByHouse();
        textWithAFault();
        textRefused();
        faultOfTheLatest();
        faultOfAnotherWhat();
    }

    private static void ofHouses() {
        houseTold();
        houseNone();
        personTold();
        personNone();
        treadTold();
        treadNone();
        whereTold();
        whereNone();
        noteTold();
        noteNone();
        endsTold();
        endsNone();
        homeTold();
        homeNone();
        thiefTold();
        errandsInARow();
        thiefNone();
        apartTold();
        apartNone();
        worthTold();
        worthNone();
    }

    private static void ofReadingsAndLooks() {
        soundTold();
        soundNone();
        makersTold();
        makersNone();
        trackTold();
        trackNone();
        spotsTold();
        spotsNone();
        drawnTold();
        drawnNone();
        ringTold();
        ringNone();
        meetTold();
        meetNone();
        lookTold();
        lookNone();
        countTold();
        countNone();
        imageTaken();
        imageRefused();
        againTold();
        againRefused();
    }

    public static void main(String[] args) {
        ofTexts();
        ofHouses();
        ofReadingsAndLooks();
        System.out.println(sentences + " sentences, " + checks + " answers, " + wrong + " not as due");
        if (wrong != 0) {
            System.exit(1);
        }
    }
}
