/**
 * Terms, 4 and 5, of the document: every sentence that names a boundary case of sounds, drawn evenings and of what is
 * looked at has a test of its own here, in the document's order. The words of the sentence stand first in each test.
 */
public final class TermSoundTest {
    private static final int NONE = -1;
    private static final int HOLLOW = 0;
    private static final int BUSY = 1;
    private static final int COPY = 2;
    private static final int TELLS = 10;
    private static final int MOVE = 20;
    private static final int HIRE = 30;
    private static final int LATE = 40;

    private static int checks = 0;
    private static int wrong = 0;
    private static int sentences = 0;
    private static String sentence = "";

    private static void says(String words) {
        sentences++;
        sentence = words;
    }

    private static void due(String call, long got, long want) {
        checks++;
        if (got != want) {
            wrong++;
            System.out.println("'" + sentence + "': " + call + " answered " + got + ", due is " + want);
        }
    }

    private static void tell(EchoStair x, int sort, String text) {
        for (int i = 0; i < text.length(); i += 20) {
            int[] five = new int[5];
            for (int j = 0; j < 20; j++) {
                int sign = i + j < text.length() ? text.charAt(i + j) : 0;
                five[j / 4] = five[j / 4] << 8 | sign;
            }
            x.feed(five[0], five[1], five[2], five[3], five[4]);
        }
        x.end(text.length());
        due("text of " + text, x.text(sort, NONE), 0);
    }

    /** A new object with one house. */
    private static EchoStair house(String text) {
        EchoStair x = new EchoStair();
        tell(x, 0, text);
        return x;
    }

    /** A new object with one house and one reading. */
    private static EchoStair heard(String text, String sounds) {
        EchoStair x = house(text);
        tell(x, 1, sounds);
        return x;
    }

    private static String times(int n, String text) {
        StringBuilder b = new StringBuilder();
        for (int i = 0; i < n; i++) {
            b.append(text);
        }
        return b.toString();
    }

    private static int bits(int first, int last) {
        int bits = 0;
        for (int i = first; i <= last; i++) {
            bits |= 1 << i;
        }
        return bits;
    }

    private static void dueMakers(EchoStair x, int... makers) {
        for (int k = 0; k < makers.length; k++) {
            due("makers of " + k, x.makers(0, 0, k), makers[k]);
        }
        due("no further sound", x.makers(0, 0, makers.length), -2);
    }

    private static void dueSpots(EchoStair x, int person, int... spots) {
        for (int k = 0; k < spots.length; k++) {
            due("spots of " + k, x.spots(0, 0, person, k), spots[k]);
        }
        due("no further sound", x.spots(0, 0, person, spots.length), -2);
    }

    // Terms, 4

    private static void madeInHisShoe() {
        says("one may have MADE a SOUND on a STEP: he has its SHOE in its minute");
        EchoStair x = heard("flat 0 9;person 1 1 1;change 0 5 2;", "heard 0 4 1 -;heard 0 4 2 -;heard 0 5 1 -;heard 0 5 2 -;");
        dueMakers(x, 1, 0, 0, 1);
        dueMakers(heard("flat 0 9;person 0 1 1;person 9 1 1;change 0 99 9;", "heard 0 98 9 -;heard 0 99 9 -;"), 2, 3);
    }

    private static void madeWhereHeIsHeard() {
        says("its FLAT HEARS him there");
        // Loud 2, ear 1: from 3 off. On step 6 he is not loud.
        dueSpots(heard("flat 5 1;person 1 1 1;", "heard 0 0 1 -;"), 0, bits(2, 8));
        dueSpots(heard("flat 5 1;carpet 6 2;carpet 8 1;person 1 1 1;", "heard 0 0 1 -;"), 0, bits(2, 5) | bits(7, 7));
        dueSpots(heard("steps 24;flat 0 0;flat 23 0;person 0 1 1;", "heard 0 0 0 -;heard 1 60 0 -;"), 0, bits(0, 1), bits(22, 23));
        dueMakers(heard("flat 5 9;person 1 1 1;", "heard 0 0 1 -;heard 1 0 1 -;heard 5 0 1 -;"), 1, 0, 0);
        dueMakers(heard("steps 2;carpet 0 2;carpet 1 2;flat 0 9;person 1 1 1;", "heard 0 0 1 -;"), 0);
    }

    private static void madeWithAnEcho() {
        says("and, if it has an ECHO, some of PEOPLE has that SHOE (as told at first)");
        EchoStair x = heard("flat 0 9;person 1 1 1;person 3 9 1;change 1 0 4;",
            "heard 0 0 1 3;heard 0 0 1 4;heard 0 0 1 -;heard 0 0 1 1;");
        // Of shoe 4 there was none at first; of his own shoe there is himself.
        dueMakers(x, 1, 0, 1, 1);
        EchoStair y = heard("flat 0 9;person 1 9 1;" + times(4, "person 2 9 1;") + "person 3 9 1;",
            "heard 0 0 1 3;heard 0 0 1 4;");
        // The sixth one has it; none of six has it.
        dueMakers(y, 1, 0);
    }

    private static void madeWithHalf() {
        says("and half of his LOUD there (by that SHOE) is HEARD");
        // He is heard everywhere; of loud 3 half is 1, heard from 1 off; of loud 1 half is nothing.
        dueSpots(heard("flat 0 0;person 9 9 1;person 0 3 1;", "heard 0 0 9 0;"), 0, bits(0, 1));
        dueSpots(heard("flat 0 0;person 9 9 1;person 0 4 1;", "heard 0 0 9 0;"), 0, bits(0, 2));
        dueSpots(heard("flat 0 0;carpet 0 2;person 9 9 1;person 0 3 1;", "heard 0 0 9 0;"), 0, bits(1, 1));
        dueSpots(heard("flat 0 9;person 9 9 1;person 0 1 1;", "heard 0 0 9 0;"), 0, 0);
        dueSpots(heard("flat 0 0;person 9 9 1;person 0 3 1;person 0 8 1;", "heard 0 0 9 0;"), 0, bits(0, 4));
        // By the echo's shoe, not by the one that he has changed to.
        dueSpots(heard("flat 0 0;person 9 9 1;person 0 4 1;change 1 0 8;", "heard 0 0 9 0;"), 0, bits(0, 2));
    }

    private static void makers() {
        says("MAKERS: PEOPLE (bits) who may have MADE it on any STEP");
        dueMakers(heard("flat 11 0;" + times(6, "person 4 1 1;"), "heard 0 0 4 -;"), 63);
        // On the last step alone; on the first alone.
        String carpets = "steps 3;carpet 0 9;carpet 1 9;carpet 2 9;";
        dueMakers(heard(carpets + "carpet 2 0;flat 2 0;person 0 1 1;", "heard 0 0 0 -;"), 1);
        dueMakers(heard(carpets + "carpet 0 0;flat 0 0;person 0 1 1;", "heard 0 0 0 -;"), 1);
        dueMakers(heard("flat 0 9;", "heard 0 0 0 -;"), 0);
    }

    private static void lie() {
        says("LIE: SOUNDS (bits) without MAKERS");
        due("all ten", heard("flat 0 9;person 1 1 1;", times(10, "heard 0 0 2 -;")).makers(0, 0, NONE), 1023);
        due("none of ten", heard("flat 0 9;person 1 1 1;", times(10, "heard 0 0 1 -;")).makers(0, 0, NONE), 0);
        due("the last", heard("flat 0 9;person 1 1 1;", times(9, "heard 0 0 1 -;") + "heard 1 0 1 -;").makers(0, 0, NONE), 512);
        due("without people", heard("flat 0 9;", "heard 0 0 0 -;heard 0 0 0 -;").makers(0, 0, NONE), 3);
        due("without sounds", heard("flat 0 9;person 1 1 1;", "").makers(0, 0, NONE), 0);
    }

    private static void trackOfHisShoe() {
        says("TRACK of one: of all SOUNDS of which he has the SHOE");
        String stair = "steps 3;flat 0 9;person 1 1 1;person 2 1 1;change 0 9 2;";
        due("of another shoe", heard(stair, "heard 0 0 1 -;heard 0 0 2 -;").track(0, 0, 0), 3);
        due("of both of his", heard(stair, "heard 0 8 1 -;heard 0 9 2 -;").track(0, 0, 0), 7);
        due("the shoe he has then", heard(stair, "heard 0 8 1 -;heard 0 9 1 -;").track(0, 0, 0), 3);
        due("of none: one way", heard(stair, "heard 0 0 3 -;").track(0, 0, 0), 1);
        due("no sounds: one way", heard(stair, "").track(0, 0, 0), 1);
        due("that he can't have made", heard(stair, "heard 0 0 1 -;heard 1 1 1 -;").track(0, 0, 0), 0);
    }

    private static void trackByMinutes() {
        says("by minutes, of one minute by numbers, a STEP each on which he may have MADE it");
        // Flat 0 is low, flat 2 high: the sounds are told in a wrong order, by which he could not have gone.
        String stair = "steps 24;flat 0 0;flat 12 0;flat 23 0;person 0 1 1;";
        EchoStair x = heard(stair, "heard 2 40 0 -;heard 0 0 0 -;heard 1 20 0 -;");
        due("ways", x.track(0, 0, 0), 12);
        EchoStair y = heard("steps 3;flat 0 9;person 1 1 1;", "heard 0 2 1 -;heard 0 0 1 -;heard 0 1 1 -;");
        // 3 steps, one a minute at most: 2, 3, 2 ways to the second sound, 5, 7, 5 to the third.
        due("by one a minute", y.track(0, 0, 0), 17);
        EchoStair z = heard("steps 3;flat 0 9;person 1 1 1;", "heard 0 1 1 -;heard 0 0 1 -;heard 0 1 1 -;heard 0 0 1 -;");
        due("two in each of two minutes", z.track(0, 0, 0), 7);
        // The last one told comes between two others.
        EchoStair u = heard(stair, "heard 0 0 0 -;heard 2 40 0 -;heard 1 20 0 -;");
        due("one between", u.track(0, 0, 0), 12);
        dueSpots(u, 0, bits(0, 1), bits(22, 23), bits(11, 13));
        EchoStair v = heard(stair, "heard 0 0 0 -;heard 2 80 0 -;heard 1 60 0 -;heard 0 40 0 -;heard 2 21 0 -;");
        // From 1 to 22 in 21 minutes; 19 minutes later he is on 3 at the lowest, where flat 0 does not hear him.
        due("too fast", v.track(0, 0, 0), 0);
    }

    private static void trackByRise() {
        says("so that from one to the next he goes no more than RISE STEPS a minute (none in one minute): in how many ways");
        String stair = "steps 24;flat 0 0;flat 23 0;person 0 1 1;";
        // On 0 or 1, and on 22 or 23: 21 steps at least.
        due("20 minutes", heard(stair, "heard 0 0 0 -;heard 1 20 0 -;").track(0, 0, 0), 0);
        due("21 minutes", heard(stair, "heard 0 0 0 -;heard 1 21 0 -;").track(0, 0, 0), 1);
        due("22 minutes", heard(stair, "heard 0 0 0 -;heard 1 22 0 -;").track(0, 0, 0), 3);
        due("23 minutes", heard(stair, "heard 0 0 0 -;heard 1 23 0 -;").track(0, 0, 0), 4);
        due("down in 21", heard(stair, "heard 1 0 0 -;heard 0 21 0 -;").track(0, 0, 0), 1);
        String four = "steps 24;flat 0 0;flat 23 0;person 0 1 4;";
        due("5 minutes by 4", heard(four, "heard 0 0 0 -;heard 1 5 0 -;").track(0, 0, 0), 0);
        due("6 minutes by 4", heard(four, "heard 0 0 0 -;heard 1 6 0 -;").track(0, 0, 0), 4);
        due("in one minute", heard("steps 24;flat 12 9;person 9 9 4;", "heard 0 7 9 -;heard 0 7 9 -;").track(0, 0, 0), 24);
        StringBuilder ten = new StringBuilder();
        for (int i = 0; i < 10; i++) {
            ten.append("heard 0 ").append(i * 10).append(" 9 -;");
        }
        due("ten far between", heard("steps 24;flat 12 9;person 9 9 4;", ten.toString()).track(0, 0, 0), 63403380965376L);
    }

    private static void spots() {
        says("SPOTS of such a SOUND: STEPS (bits) that it has in any of these");
        String stair = "steps 24;flat 0 0;flat 23 0;person 0 1 1;person 1 1 1;";
        dueSpots(heard(stair, "heard 0 0 0 -;heard 1 20 0 -;"), 0, 0, 0);
        dueSpots(heard(stair, "heard 0 0 0 -;heard 1 21 0 -;"), 0, bits(1, 1), bits(22, 22));
        dueSpots(heard(stair, "heard 1 21 0 -;heard 0 0 0 -;"), 0, bits(22, 22), bits(1, 1));
        dueSpots(heard(stair, "heard 0 0 0 -;heard 1 22 0 -;"), 0, bits(0, 1), bits(22, 23));
        dueSpots(heard(stair, "heard 0 0 0 -;heard 1 22 0 -;"), 1, 0, 0);
        // One in the middle is narrowed from both sides, and those at the sides by each other.
        dueSpots(heard("steps 24;flat 0 0;flat 4 9;flat 8 0;person 0 1 1;", "heard 0 0 0 -;heard 1 4 0 -;heard 2 8 0 -;"), 0,
            bits(0, 1), bits(3, 5), bits(7, 9));
        dueSpots(heard("steps 24;flat 0 0;flat 4 9;flat 8 0;person 0 1 1;", "heard 0 0 0 -;heard 1 2 0 -;heard 2 6 0 -;"), 0,
            bits(1, 1), bits(3, 3), bits(7, 7));
        // Ten of them, one a minute: he has to go one step each time to be on 9 in minute 8.
        dueSpots(heard("steps 24;flat 0 0;flat 4 9;flat 10 0;person 0 1 1;carpet 0 1;carpet 11 1;",
            "heard 0 0 0 -;heard 1 1 0 -;heard 1 2 0 -;heard 1 3 0 -;heard 1 4 0 -;heard 1 5 0 -;heard 1 6 0 -;heard 1 7 0 -;"
            + "heard 2 8 0 -;heard 2 9 0 -;"), 0,
            bits(1, 1), bits(2, 2), bits(3, 3), bits(4, 4), bits(5, 5), bits(6, 6), bits(7, 7), bits(8, 8), bits(9, 9), bits(9, 10));
    }

    private static void sure() {
        says("SURE: how many such SOUNDS have one STEP alone");
        String stair = "steps 24;flat 0 0;flat 23 0;person 0 1 1;person 1 1 1;";
        due("both", heard(stair, "heard 0 0 0 -;heard 1 21 0 -;").spots(0, 0, 0, NONE), 2);
        due("neither: two steps", heard(stair, "heard 0 0 0 -;heard 1 22 0 -;").spots(0, 0, 0, NONE), 0);
        due("neither: no step", heard(stair, "heard 0 0 0 -;heard 1 20 0 -;").spots(0, 0, 0, NONE), 0);
        due("not of his shoe", heard(stair, "heard 0 0 0 -;heard 1 21 0 -;").spots(0, 0, 1, NONE), 0);
        due("one of two", heard("carpet 0 1;flat 0 0;flat 9 9;person 0 1 1;", "heard 0 0 0 -;heard 1 9 0 -;").spots(0, 0, 0, NONE), 1);
    }

    /** Answers of drawn(): treads, notes, the steps at the end, notes of each flat. */
    private static void dueDrawn(EchoStair x, int seed, int k, int treads, int[] ends, int... notes) {
        String call = "drawn(0, " + seed + ", " + k + ", ";
        int all = 0;
        due(call + "0)", x.drawn(0, seed, k, 0), treads);
        for (int p = 0; p < ends.length; p++) {
            due(call + (10 + p) + ")", x.drawn(0, seed, k, 10 + p), ends[p]);
        }
        for (int f = 0; f < notes.length; f++) {
            due(call + (20 + f) + ")", x.drawn(0, seed, k, 20 + f), notes[f]);
            all += notes[f];
        }
        due(call + "1)", x.drawn(0, seed, k, 1), all);
    }

    private static int[] on(int... steps) {
        return steps;
    }

    private static void drawnNumbers() {
        says("DRAWN by a SEED, x; a number below n is drawn: x becomes x * 1103515245 + 12345 (of 32 bits), it is x shifted"
            + " right by 16 without sign, remainder by n");
        EchoStair x = house("steps 9;flat 0 0;person 0 1 1;");
        dueDrawn(x, 0, 100, 52, on(4), 19);
        dueDrawn(x, 1, 100, 52, on(4), 23);
        dueDrawn(x, -1, 100, 53, on(7), 3);
        dueDrawn(x, Integer.MIN_VALUE, 69, 41, on(7), 14);
        dueDrawn(x, Integer.MAX_VALUE, 100, 53, on(7), 3);
        dueDrawn(x, Integer.MAX_VALUE, 30, 18, on(6), 3);
        dueDrawn(x, 12345, 100, 55, on(7), 5);
    }

    private static void drawnFromStepNought() {
        says("all stand on STEP 0");
        EchoStair x = house("steps 9;flat 0 9;person 9 9 1;person 9 9 4;walk 0 0 5 8;");
        dueDrawn(x, 1, 0, 0, on(0, 0), 0);
        dueDrawn(x, -77, 0, 0, on(0, 0), 0);
        dueDrawn(house("flat 0 9;"), 1, 100, 0, on(), 0);
    }

    private static void drawnMinutes() {
        says("minutes 0 .. 59, each of PEOPLE, by numbers");
        // He is heard in the first minute, in the last one, and in no later one.
        String stair = "steps 2;keep 0;carpet 0 1;carpet 1 1;flat 0 9;person 0 1 1;";
        dueDrawn(house(stair + "change 0 0 9;change 0 1 0;"), 1, 100, 32, on(0), 1);
        dueDrawn(house(stair + "change 0 0 9;change 0 1 0;"), 2, 100, 34, on(0), 0);
        dueDrawn(house(stair + "change 0 59 9;"), 1, 100, 32, on(0), 1);
        dueDrawn(house(stair + "change 0 59 9;"), 3, 100, 28, on(0), 0);
        dueDrawn(house(stair + "change 0 60 9;"), 1, 100, 32, on(0), 0);
        dueDrawn(house("flat 0 0;flat 11 3;person 0 1 1;person 2 1 3;"), 5, 60, 59, on(5, 11), 15, 17);
        dueDrawn(house("flat 0 0;flat 11 3;person 0 1 1;person 2 1 3;"), -7, 60, 56, on(0, 0), 31, 16);
        dueDrawn(house("steps 24;flat 0 0;person 0 1 1;person 0 1 2;person 0 1 3;person 0 1 4;person 0 1 1;person 0 1 2;"),
            1, 100, 296, on(3, 15, 6, 23, 1, 0), 58);
    }

    private static void drawnBelowK() {
        says("a number below 100: below k he goes");
        // The first number is 0 by seed 0, 38 by seed 1, 36 by 12345.
        EchoStair x = house("steps 9;flat 0 0;person 0 1 1;");
        dueDrawn(x, 0, 0, 0, on(0), 0);
        dueDrawn(x, 0, 1, 1, on(1), 1);
        dueDrawn(x, 1, 38, 17, on(1), 12);
        dueDrawn(x, 1, 39, 20, on(2), 14);
        dueDrawn(x, 12345, 36, 11, on(3), 4);
        dueDrawn(x, 12345, 37, 13, on(5), 2);
    }

    private static void drawnRise() {
        says("a number below 2: 0 up, 1 down, RISE STEPS, or as many as there are; he treads, if he goes any");
        // By 4 at once, or by 2, he is above or below at once, and does not tread where he can't go on.
        EchoStair x = house("steps 3;flat 0 0;flat 2 0;person 0 1 4;");
        dueDrawn(x, 3, 100, 28, on(0), 14, 14);
        dueDrawn(x, -9, 100, 27, on(2), 13, 14);
        EchoStair y = house("steps 3;flat 0 0;flat 2 0;person 0 1 2;");
        dueDrawn(y, -9, 100, 27, on(2), 13, 14);
    }

    private static void drawnEchoes() {
        // Of a drawn evening, too, NOTES have ECHOES, which are kept for KEEP minutes.
        says("1: all NOTES of all FLATS");
        int[][] notes = {{0, 24}, {1, 26}, {2, 28}, {60, 32}, {99, 32}};
        for (int[] one : notes) {
            EchoStair x = house("steps 2;keep " + one[0] + ";carpet 0 1;carpet 1 1;flat 0 9;person 3 1 1;person 0 1 1;");
            dueDrawn(x, 7, 50, 34, on(0, 0), one[1]);
        }
        // Half of loud 8 is heard from 4 off, so two of three flats hear some of the echoes alone.
        StringBuilder carpets = new StringBuilder("steps 9;keep 99;");
        for (int i = 0; i < 9; i++) {
            carpets.append("carpet ").append(i).append(" 1;");
        }
        EchoStair y = house(carpets + "flat 8 0;flat 4 0;flat 0 9;person 0 9 1;person 0 1 2;");
        dueDrawn(y, 1, 70, 66, on(0, 8), 43, 46, 46);
        dueDrawn(y, 2, 70, 65, on(0, 2), 36, 46, 46);
        dueDrawn(y, 4, 70, 60, on(5, 2), 37, 45, 45);
        // One is loud in minute 0 alone: of his tread then, and of its echo, there are two notes at most.
        EchoStair z = house("steps 2;keep 99;carpet 0 1;carpet 1 1;flat 0 9;person 9 1 1;person 0 1 1;change 0 1 0;");
        dueDrawn(z, 1, 100, 57, on(1, 0), 2);
        dueDrawn(z, 2, 100, 59, on(1, 0), 0);
        dueDrawn(z, 4, 100, 62, on(0, 0), 2);
    }

    // Terms, 5

    private static void ring() {
        says("RING of a TREAD: how many there are of it, its ECHO, that one's ECHO, ..; the longest RING");
        EchoStair x = house("steps 2;keep 2;person 0 1 1;walk 0 0 0 1 0 1 0;");
        int[] rings = {1, 1, 2, 2, 3};
        for (int k = 0; k < rings.length; k++) {
            due("ring of " + k, x.ring(0, k), rings[k]);
        }
        due("the longest", x.ring(0, NONE), 3);
        EchoStair y = house("steps 2;keep 1;person 0 1 1;walk 0 0 0 1 0 1 0;");
        due("without echoes", y.ring(0, NONE), 1);
        // The longest one is not the last: two on step 0, then one on step 1.
        EchoStair z = house("person 0 1 1;person 0 1 1;walk 0 0 0 0;walk 1 1 0 1;");
        due("the last", z.ring(0, 2), 1);
        due("the longest", z.ring(0, NONE), 2);
        due("of one tread", house("person 0 1 1;walk 0 0 0 0;").ring(0, NONE), 1);
    }

    private static void meet() {
        says("MEET of two: the first minute in which both are on one STEP");
        String two = "steps 24;person 0 1 1;person 0 1 1;";
        EchoStair x = house(two + "walk 0 60 0 23 0;walk 1 60 23 7;");
        // They pass without meeting, in minute 72; 1 stays on 7 from 76 on, where 0 comes in 99.
        due("in the last minute", x.meet(0, 0, 1, false), 99);
        due("the other way round", x.meet(0, 1, 0, false), 99);
        EchoStair y = house(two + "walk 0 60 0 23 0;walk 1 60 23 6;");
        due("a minute too late", y.meet(0, 0, 1, false), NONE);
        due("in the first minute", house(two + "walk 0 0 3 5;walk 1 0 3 0;").meet(0, 0, 1, false), 0);
        due("ahead of beginning", house(two + "walk 0 0 3 5;walk 1 1 3 3;").meet(0, 0, 1, false), NONE);
        due("of several the first", house(two + "walk 0 0 3 4 3;walk 1 1 4 3;").meet(0, 0, 1, false), 1);
        due("both stay", house(two + "walk 0 0 3 3;walk 1 9 3 3;").meet(0, 0, 1, false), 9);
        due("one without a walk", house(two + "walk 0 0 3 5;").meet(0, 0, 1, false), NONE);
        due("both without a walk", house(two).meet(0, 0, 1, false), NONE);
        String three = "steps 24;person 0 1 1;person 0 1 1;person 0 1 1;";
        due("of the latter two", house(three + "walk 0 0 3 3;walk 1 0 3 3;walk 2 0 5 3;").meet(0, 1, 2, false), 2);
        due("of the former two, never", house(three + "walk 0 0 1 1;walk 1 0 3 4;walk 2 0 3 4;").meet(0, 0, 1, false), NONE);
    }

    private static void pass() {
        says("PASS: in how many minutes one of both is above the other one and was not so a minute ahead (when both had begun)");
        String two = "steps 24;person 0 1 1;person 0 1 1;";
        due("through each other", house(two + "walk 0 0 3 4;walk 1 0 4 3;").meet(0, 0, 1, true), 1);
        due("by meeting", house(two + "walk 0 0 3 5;walk 1 0 5 3;").meet(0, 0, 1, true), 1);
        due("up to him and no further", house(two + "walk 0 0 3 4;walk 1 0 5 4;").meet(0, 0, 1, true), 0);
        due("away from him, up", house(two + "walk 0 0 3 4;walk 1 0 3 3;").meet(0, 0, 1, true), 1);
        due("away from him, down", house(two + "walk 0 0 3 2;walk 1 0 3 3;").meet(0, 0, 1, true), 1);
        due("up to him and back", house(two + "walk 0 0 3 4 3;walk 1 0 4 4;").meet(0, 0, 1, true), 1);
        due("above from the beginning", house(two + "walk 0 0 3 3;walk 1 0 9 9;").meet(0, 0, 1, true), 0);
        due("begins above", house(two + "walk 0 0 3 3;walk 1 5 9 9;").meet(0, 0, 1, true), 0);
        due("begins above who begins", house(two + "walk 0 4 3 3;walk 1 5 4 3;").meet(0, 0, 1, true), 0);
        due("begins on his step", house(two + "walk 0 0 3 3;walk 1 5 3 4;").meet(0, 0, 1, true), 1);
        due("above and below again", house(two + "walk 0 0 3 3;walk 1 0 2 4 2 4 2;").meet(0, 0, 1, true), 4);
        due("one without a walk", house(two + "walk 0 0 3 4;").meet(0, 0, 1, true), 0);
        // 1 stays on 8, 0 goes up over it, and from 23 down again: on 8 in 98, below it in the last minute.
        due("in the last minute", house(two + "walk 0 60 0 23 0;walk 1 60 8 8;").meet(0, 0, 1, true), 2);
        due("behind the last minute", house(two + "walk 0 60 0 23 0;walk 1 60 7 7;").meet(0, 0, 1, true), 1);
        due("not in the first minute", house(two + "person 0 1 1;walk 0 0 9 9;walk 1 0 3 3;walk 2 0 5 5;").meet(0, 1, 2, true), 0);
    }

    private static void hollow() {
        says("HOLLOW: the longest row of minutes, 0 .. 99, in which no FLAT has a NOTE");
        due("no notes", house("flat 0 9;").look(0, HOLLOW), 100);
        due("all behind it", house("flat 0 9;person 9 9 1;walk 0 0 0 0;").look(0, HOLLOW), 99);
        due("all ahead of it", house("flat 0 9;person 9 9 1;walk 0 60 0 0;").look(0, HOLLOW), 60);
        due("behind minute 40", house("flat 0 9;person 9 9 1;walk 0 40 0 0;").look(0, HOLLOW), 59);
        due("between", house("flat 0 9;person 9 9 1;person 9 9 1;walk 0 0 0 0;walk 1 60 0 0;").look(0, HOLLOW), 59);
        due("none", house("steps 24;flat 9 9;person 9 9 1;walk 0 0 0 23 0 23 0 23;").look(0, HOLLOW), 0);
        due("not heard", house("flat 0 0;person 0 1 1;walk 0 40 9 9;").look(0, HOLLOW), 100);
        due("without flats", house("person 9 9 1;walk 0 40 9 9;").look(0, HOLLOW), 100);
        due("by the second flat", house("flat 0 0;flat 9 0;person 0 1 1;walk 0 40 9 9;").look(0, HOLLOW), 59);
        due("by an echo alone", house("flat 0 0;carpet 0 1;person 9 1 1;person 0 1 1;walk 0 0 0 0;walk 1 50 0 0;").look(0, HOLLOW), 49);
    }

    private static void busy() {
        says("BUSY: the STEP with most TREADS; of several the least");
        due("of several", house("person 0 1 1;walk 0 0 9 8;").look(0, BUSY), 8);
        due("most", house("person 0 1 1;walk 0 0 8 10 9;").look(0, BUSY), 9);
        due("the last one", house("person 0 1 1;person 0 1 1;walk 0 0 11 10;walk 1 0 11 11;").look(0, BUSY), 11);
        due("the first one", house("person 0 1 1;walk 0 0 1 0;").look(0, BUSY), 0);
        due("staying is no tread", house("person 0 1 1;walk 0 0 5 3 4;").look(0, BUSY), 4);
        EchoStair x = house("flat 5 9;person 0 1 1;walk 0 0 1 1;");
        due("the second one", x.look(0, BUSY), 1);
        x.worth(0, NONE, 9);
        x.look(0, MOVE);
        due("the second one, behind other reckonings", x.look(0, BUSY), 1);
    }

    private static void hire() {
        says("HIRE: the greatest SHOE, 9 .. 0, by which (worn all the time, without CHANGES) no FLAT HEARS any tread of one");
        String one = "person 5 1 1;walk 0 0 0 0;";
        due("on the thickest carpet", house("carpet 0 9;flat 0 9;" + one).look(0, HIRE), 8);
        due("9, far off", house("flat 11 0;" + one).look(0, HIRE), 9);
        due("8, a step nearer", house("flat 10 0;" + one).look(0, HIRE), 8);
        due("without flats", house(one).look(0, HIRE), 9);
        due("0", house("carpet 0 1;flat 0 9;" + one).look(0, HIRE), 0);
        due("none", house("flat 0 9;" + one).look(0, HIRE), NONE);
        due("by any of the flats", house("flat 11 0;flat 5 0;" + one).look(0, HIRE), 3);
        due("by any of the treads", house("flat 11 0;person 5 1 1;walk 0 0 0 5;").look(0, HIRE), 4);
        due("in spite of changes", house("carpet 0 5;flat 0 9;change 0 0 9;" + one).look(0, HIRE), 4);
        due("treads, not echoes", house("carpet 0 5;flat 0 9;" + one + "person 9 9 1;walk 1 0 0 0;").look(0, HIRE), 4);
        due("of the other one", house("carpet 0 5;flat 0 9;" + one + "person 9 4 1;walk 1 0 0 0;").look(0, HIRE + 1), 1);
    }

    private static void late() {
        says("LATE: the minute, 0 .. 60, in which one had better begin his WALK, so that all FLATS together have fewest NOTES of"
            + " his TREADS; of several the least");
        String one = "carpet 0 1;flat 0 9;person 5 1 1;walk 0 30 0 0;";
        due("all the same", house(one).look(0, LATE), 0);
        due("the last minute", house(one + "change 0 60 0;").look(0, LATE), 60);
        due("a minute too late", house(one + "change 0 61 0;").look(0, LATE), 0);
        due("of several the least", house(one + "change 0 7 0;change 0 9 5;change 0 20 0;").look(0, LATE), 7);
        due("minute 0 is best", house(one + "change 0 0 0;change 0 1 5;").look(0, LATE), 0);
        // Of two flats one is far off, and hears loud shoes alone.
        due("all flats together", house("carpet 0 1;flat 0 0;flat 9 0;person 9 1 1;walk 0 0 0 0;change 0 5 1;").look(0, LATE), 5);
        // What falls behind minute 99 is not noted.
        due("cut by minute 99", house("steps 24;flat 0 9;person 9 9 1;walk 0 0 0 23 0;").look(0, LATE), 60);
        due("there in minute 99", house("steps 24;flat 0 9;person 9 9 1;walk 0 0 0 23 7;").look(0, LATE), 0);
        due("just cut", house("steps 24;flat 0 9;person 9 9 1;walk 0 0 0 23 6;").look(0, LATE), 60);
        due("a minute later", house(one + "change 0 1 0;").look(0, LATE), 1);
        // He is heard on no step in shoe 0, on all in shoe 9, which he has in minutes 3 .. 29.
        due("in each of his minutes", house("flat 11 0;carpet 10 1;carpet 11 1;person 0 1 1;walk 0 0 8 11;change 0 3 9;"
            + "change 0 30 0;").look(0, LATE), 30);
        // 185 treads, of which those on 0 and 1 are heard: but for the first two, not ahead of the 45th.
        due("a long walk", house("steps 24;flat 0 0;person 0 1 1;walk 0 0 0 23 0 23 0 23 0 23 0;").look(0, LATE), 55);
        EchoStair x = house("steps 24;flat 0 0;person 0 1 1;person 0 1 1;walk 0 0 0 23 0 23 0 23 0 23 0;walk 1 0 5 5;");
        due("a long walk of another one", x.look(0, LATE), 55);
        due("is not his", x.look(0, LATE + 1), 0);
    }

    private static void lateWithEchoes() {
        says("so that all FLATS together have fewest NOTES of his TREADS");
        // The echo of a higher number of the same minute is behind; one of a lower number is heard till minute 9.
        due("ahead of an echo", house("keep 9;carpet 0 1;flat 0 9;person 0 1 1;person 9 9 1;walk 0 0 0 0;walk 1 0 0 0;").look(0, LATE), 0);
        due("behind an echo", house("keep 9;carpet 0 1;flat 0 9;person 9 9 1;person 0 1 1;walk 0 0 0 0;walk 1 0 0 0;").look(0, LATE + 1), 10);
        String soft = "steps 2;carpet 0 1;carpet 1 1;flat 0 9;";
        // He goes to 1 in his second minute, where the echo is heard till minute 9.
        due("an echo on his way", house("keep 9;" + soft + "person 0 1 1;person 9 9 1;walk 0 0 0 1;walk 1 0 1 1;").look(0, LATE), 9);
        // The other one treads on 1, 0, 1 in minutes 0, 1, 2: the echo on 0 is heard till 10, that on 1 till 11.
        due("two echoes on his way", house("keep 9;" + soft + "person 0 1 1;person 9 9 1;walk 0 0 0 1;walk 1 0 1 0 1;").look(0, LATE), 11);
        // He is soft in minutes 6 and 7. If he begins in 5, he wakes his own tread of 5 in 7; if in 6, he is loud in 8.
        String own = soft + "person 9 1 1;walk 0 0 0 1 0;change 0 6 0;change 0 8 9;";
        due("his own echo", house("keep 2;" + own).look(0, LATE), 6);
        due("his own echo is not kept", house("keep 1;" + own).look(0, LATE), 5);
        // The other one is loud on 0 in minute 10. He is soft from 10 on; what he wakes in the end is the later tread.
        String end = "walk 0 0 0 1 0;walk 1 10 0 0;";
        due("of one minute, the higher number is later", house("keep 5;" + soft + "person 5 1 1;person 0 9 1;change 0 10 0;" + end)
            .look(0, LATE), 16);
        due("his own is later", house("keep 5;" + soft + "person 0 9 1;person 5 1 1;change 1 10 0;change 1 16 5;"
            + "walk 1 0 0 1 0;walk 0 10 0 0;").look(0, LATE + 1), 10);
        due("the other's is later", house("keep 5;" + soft + "person 5 1 1;person 0 9 1;change 0 10 0;walk 0 0 0 1 0;walk 1 11 0 0;")
            .look(0, LATE), 17);
        due("his own is later, in minute 0", house("keep 99;" + soft + "person 0 9 1;person 0 1 1;walk 0 0 0 0;walk 1 0 0 1 0;")
            .look(0, LATE + 1), 0);
        // Half of loud 8 is heard from 4 off, and not from 5.
        String far = "keep 9;carpet 0 1;person 0 9 1;person 0 1 1;walk 0 0 0 0;walk 1 0 0 0;";
        due("half of it is heard", house(far + "flat 4 0;").look(0, LATE + 1), 10);
        due("half of it is not heard", house(far + "flat 5 0;").look(0, LATE + 1), 0);
        // From 7 up to 23 and down to 0 are 40 treads: whenever he begins, he wakes the other's one of minute 0, on step 0.
        StringBuilder carpets = new StringBuilder("steps 24;keep 99;flat 0 9;person 0 1 1;person 9 9 1;walk 0 30 7 23 0;walk 1 0 0 0;");
        for (int i = 0; i < 24; i++) {
            carpets.append("carpet ").append(i).append(" 1;");
        }
        due("an echo in minute 99", house(carpets.toString()).look(0, LATE), 0);
    }

    private static void copy() {
        says("COPY: two who, but for being called by other numbers, are the same to all FLATS: the same SHOE in every minute,"
            + " the same WEIGHT: couples");
        due("nobody", house("").look(0, COPY), 0);
        due("one", house("person 1 1 1;").look(0, COPY), 0);
        due("two", house("person 1 1 1;person 1 1 4;walk 0 0 0 5;").look(0, COPY), 1);
        due("six", house(times(6, "person 1 1 1;")).look(0, COPY), 15);
        due("another weight", house("person 1 1 1;person 1 2 1;").look(0, COPY), 0);
        due("another shoe", house("person 1 1 1;person 2 1 1;").look(0, COPY), 0);
        due("in minute 99 alone", house("person 1 1 1;person 1 1 1;change 0 99 2;").look(0, COPY), 0);
        due("in minute 0 alone", house("person 1 1 1;person 2 1 1;change 1 1 1;").look(0, COPY), 0);
        due("in no minute", house("person 1 1 1;person 2 1 1;change 1 0 1;").look(0, COPY), 1);
        due("two couples", house("person 1 1 1;person 2 1 1;person 1 1 1;person 2 1 1;").look(0, COPY), 2);
    }

    private static void move() {
        says("MOVE of a FLAT: the STEP on which it had fewest NOTES (EAR stays); of several the least");
        due("no treads", house("flat 5 9;").look(0, MOVE), 0);
        due("unheard from 0", house("flat 5 2;person 0 1 1;walk 0 0 4 4;").look(0, MOVE), 0);
        due("all heard alike", house("steps 2;flat 1 9;person 0 1 1;walk 0 0 0 1;").look(0, MOVE), 0);
        // Loud 1, ear 2: heard from 0 .. 6 by a tread on 3; one on 0 is heard up to 3.
        due("behind all", house("flat 5 2;person 0 1 4;walk 0 0 0 3;").look(0, MOVE), 7);
        due("by its own ear", house("flat 5 0;flat 5 2;person 0 1 4;walk 0 0 0 3;").look(0, MOVE), 5);
        due("by the other's ear", house("flat 5 0;flat 5 2;person 0 1 4;walk 0 0 0 3;").look(0, MOVE + 1), 7);
        due("fewest, though not none", house("steps 6;flat 0 2;person 0 1 1;person 0 1 1;walk 0 0 0 1;walk 1 0 5 5;").look(0, MOVE), 5);
        due("the last step", house("steps 6;flat 0 3;person 0 1 1;walk 0 0 0 0;").look(0, MOVE), 5);
        // The second tread is not loud, but its echo is: half of 8, heard up to 4. The first one is heard everywhere.
        due("by echoes, too", house("steps 6;flat 0 0;carpet 0 1;person 0 9 1;person 0 1 1;walk 0 0 0 0;walk 1 1 0 0;")
            .look(0, MOVE), 5);
        due("what is not loud", house("steps 6;flat 5 0;carpet 0 1;person 0 1 1;walk 0 0 0 0;").look(0, MOVE), 0);
        due("what is not loud, by a fine ear", house("steps 6;flat 5 4;carpet 0 1;person 0 1 1;walk 0 0 0 0;").look(0, MOVE), 0);
        due("24 steps, heard everywhere", house("steps 24;flat 5 9;person 9 9 1;walk 0 0 23 23;").look(0, MOVE), 0);
        due("24 steps, but for the lowest", house("steps 24;flat 5 9;person 9 5 1;walk 0 0 23 23;flat 5 8;").look(0, MOVE + 1), 0);
        due("24 steps, the last", house("steps 24;flat 5 9;person 9 4 1;walk 0 0 0 0;").look(0, MOVE), 23);
    }

    private static void tells() {
        says("TELLS of a FLAT: how many SHOES it HEARS of treads (each once)");
        due("no treads", house("flat 0 9;person 1 1 1;").look(0, TELLS), 0);
        due("one shoe of two", house("flat 0 9;person 1 1 1;person 1 1 1;walk 0 0 0 3;walk 1 0 3 0;").look(0, TELLS), 1);
        due("two shoes of one", house("flat 0 9;person 0 1 1;walk 0 0 0 1;change 0 1 9;").look(0, TELLS), 2);
        due("too far off", house("flat 0 0;person 0 1 1;walk 0 0 2 2;").look(0, TELLS), 0);
        due("of treads, not of echoes",
            house("flat 0 0;carpet 0 1;person 9 1 1;person 0 1 1;walk 0 0 0 0;walk 1 1 0 0;").look(0, TELLS), 1);
        StringBuilder ten = new StringBuilder("steps 24;flat 9 9;person 0 9 1;person 5 9 1;walk 0 0 0 23;walk 1 0 0 23;");
        for (int i = 1; i <= 4; i++) {
            ten.append("change 0 ").append(i).append(' ').append(i).append(';');
            ten.append("change 1 ").append(i).append(' ').append(5 + i).append(';');
        }
        due("all ten", house(ten.toString()).look(0, TELLS), 10);
    }

    public static void main(String[] args) {
        madeInHisShoe();
        madeWhereHeIsHeard();
        madeWithAnEcho();
        madeWithHalf();
        makers();
        lie();
        trackOfHisShoe();
        trackByMinutes();
        trackByRise();
        spots();
        sure();
        drawnNumbers();
        drawnFromStepNought();
        drawnMinutes();
        drawnBelowK();
        drawnRise();
        drawnEchoes();
        ring();
        meet();
        pass();
        hollow();
        busy();
        hire();
        late();
        lateWithEchoes();
        copy();
        move();
        tells();
        System.out.println(sentences + " sentences, " + checks + " answers, " + wrong + " not as due");
        if (wrong != 0) {
            System.exit(1);
        }
    }
}
