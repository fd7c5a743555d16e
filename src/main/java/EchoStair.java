import java.util.Arrays;

/**
 * The tenant of the echoing stair. Houses and readings are told as texts on a tape; the class answers who trod
 * where, what each flat heard, how one gets home unheard, and who may have made a sound. Every row is made once
 * and used again, because all calls of a run share one room.
 */
public final class EchoStair {
    public static final int NONE = -1;

    private static final int ABSENT = -2;

    private static final int HOUSES = 0;
    private static final int READINGS = 1;
    private static final int MOST_TEXTS = 2;
    private static final int MOST_IMAGES = 3;
    private static final int TAPE_BYTES = 600;
    private static final int FEED_BYTES = 20;

    private static final int MOST_STEPS = 24;
    private static final int MOST_FLATS = 6;
    private static final int MOST_PEOPLE = 6;
    private static final int MOST_GOALS = 8;
    private static final int MOST_CHANGES = 8;
    private static final int MOST_SOUNDS = 10;
    private static final int MOST_CARPET = 9;
    private static final int MOST_SHOE = 9;
    private static final int MOST_LOUD = 18;
    private static final int MINUTES = 100;
    private static final int LAST_BEGIN = 60;
    private static final int MOST_WAY = 60;
    private static final int DRAWN_MINUTES = 60;
    private static final int MOST_TREADS = MOST_PEOPLE * MINUTES;

    private final Told told = new Told();
    private final Told[] images = new Told[MOST_IMAGES];
    private final Reader reader = new Reader(told.tape);
    private final Evening[] evenings = new Evening[MOST_TEXTS];
    private final Others others = new Others();
    private final Route route = new Route();
    private final Delay delay = new Delay();
    private final Wardrobe wardrobe = new Wardrobe();
    private final Dream dream = new Dream();
    private final Witness witness = new Witness();

    public EchoStair() {
    }

    public int feed(int a, int b, int c, int d, int e) {
        if (told.size + FEED_BYTES > TAPE_BYTES) {
            return NONE;
        }
        told.append(a);
        told.append(b);
        told.append(c);
        told.append(d);
        told.append(e);
        return told.size;
    }

    public int end(int n) {
        if (n < 0 || n > told.size) {
            return NONE;
        }
        told.size = n;
        return n;
    }

    public int text(int sort, int at) {
        int bytes = told.size;
        // The tape is taken by every call, also by one that may not come and so is not read.
        told.size = 0;
        told.fault = 0;
        told.faultPlace = NONE;
        int number = placeFor(sort, at);
        if (number == NONE) {
            return ABSENT;
        }
        reader.read(sort, bytes);
        told.fault = reader.fault;
        told.faultPlace = reader.faultPlace;
        if (reader.fault != 0) {
            return NONE;
        }
        takeText(sort, number);
        return number;
    }

    /** The number that a text of the sort would have, or NONE if it may not come there. */
    private int placeFor(int sort, int at) {
        int there = howMany(sort);
        if (there < 0) {
            return NONE;
        }
        if (at == NONE) {
            return there < MOST_TEXTS ? there : NONE;
        }
        return at >= 0 && at < there ? at : NONE;
    }

    private void takeText(int sort, int number) {
        if (sort == HOUSES) {
            told.houses[number].copyFrom(reader.house);
            told.houseCount = Math.max(told.houseCount, number + 1);
            forgetEvening(number);
        } else {
            told.readings[number].copyFrom(reader.reading);
            told.readingCount = Math.max(told.readingCount, number + 1);
        }
    }

    private int howMany(int sort) {
        if (sort == HOUSES) {
            return told.houseCount;
        }
        return sort == READINGS ? told.readingCount : ABSENT;
    }

    public int fault(int what) {
        if (what == 0) {
            return told.fault;
        }
        return what == 1 ? told.faultPlace : NONE;
    }

    public int house(int house, int what) {
        House h = houseAt(house);
        if (h == null) {
            return NONE;
        }
        if (what >= 100) {
            return pick(h.carpet, what - 100, h.steps, NONE);
        }
        if (what < 10) {
            return houseFigure(h, what);
        }
        int k = what % 10;
        switch (what / 10) {
            case 1: return pick(h.flatStep, k, h.flats, NONE);
            case 2: return pick(h.ear, k, h.flats, NONE);
            case 3: return pick(h.changer, k, h.changes, NONE);
            case 4: return pick(h.changeMinute, k, h.changes, NONE);
            case 5: return pick(h.changeShoe, k, h.changes, NONE);
            default: return NONE;
        }
    }

    private static int houseFigure(House h, int what) {
        switch (what) {
            case 0: return h.steps;
            case 1: return h.keep;
            case 2: return h.flats;
            case 3: return h.people;
            case 4: return h.changes;
            default: return NONE;
        }
    }

    public int person(int house, int person, int what) {
        Evening e = eveningAt(house);
        if (e == null || !e.house.hasPerson(person)) {
            return ABSENT;
        }
        House h = e.house;
        if (what >= 100) {
            return what < 100 + MINUTES ? h.shoeAt(person, what - 100) : ABSENT;
        }
        if (what >= 10) {
            return what - 10 < h.goals[person] ? h.goalOf(person, what - 10) : ABSENT;
        }
        switch (what) {
            case 0: return h.shoe[person];
            case 1: return h.weight[person];
            case 2: return h.rise[person];
            case 3: return h.begin[person];
            case 4: return h.start[person];
            case 5: return h.goals[person];
            case 6: return e.last[person];
            case 7: return e.spotAt(person, MINUTES - 1);
            default: return ABSENT;
        }
    }

    public int tread(int house, int k, int what) {
        Evening e = eveningAt(house);
        if (e == null) {
            return ABSENT;
        }
        if (k == NONE) {
            return what == 0 ? e.treads : ABSENT;
        }
        switch (what) {
            case 0: return pick(e.who, k, e.treads, ABSENT);
            case 1: return pick(e.step, k, e.treads, ABSENT);
            case 2: return pick(e.minute, k, e.treads, ABSENT);
            case 3: return pick(e.shoe, k, e.treads, ABSENT);
            case 4: return pick(e.loud, k, e.treads, ABSENT);
            case 5: return pick(e.echo, k, e.treads, ABSENT);
            case 6: return pick(e.heard, k, e.treads, ABSENT);
            case 7: return pick(e.echoHeard, k, e.treads, ABSENT);
            default: return ABSENT;
        }
    }

    public int where(int house, int person, int minute) {
        Evening e = eveningAt(house);
        if (e == null || !e.house.hasPerson(person) || minute < 0 || minute >= MINUTES) {
            return ABSENT;
        }
        return e.spotAt(person, minute);
    }

    public int note(int house, int flat, int k, int what) {
        Evening e = eveningAt(house);
        if (e == null || !e.house.hasFlat(flat)) {
            return ABSENT;
        }
        if (k == NONE) {
            if (what == 0) {
                return e.noteCount(flat);
            }
            return what == 1 ? e.ghostCount(flat) : ABSENT;
        }
        int tread = e.noteNumber(flat, k);
        if (tread == NONE) {
            return ABSENT;
        }
        switch (what) {
            case 0: return tread;
            case 1: return has(e.heard[tread], flat) ? e.shoe[tread] : NONE;
            case 2: return e.echoShoe(tread, flat);
            case 3: return e.isGhost(tread, flat) ? 1 : 0;
            default: return ABSENT;
        }
    }

    public int ends(int house, int what) {
        Evening e = eveningAt(house);
        if (e == null || what < 0 || what > 2) {
            return NONE;
        }
        if (what == 2) {
            return e.unheardPeople();
        }
        int bits = 0;
        for (int p = 0; p < e.house.people; p++) {
            int begun = e.house.start[p];
            int ended = e.spotAt(p, MINUTES - 1);
            if (what == 0 ? ended > begun : ended < begun) {
                bits |= 1 << p;
            }
        }
        return bits;
    }

    public int home(int house, int person, int from, int to, int minute, int flats, int what) {
        House h = houseAt(house);
        // A bit of flats beyond those that are there names a flat that is not there.
        if (h == null || (flats & ~h.allFlats()) != 0 || !hasRoute(house, person, from, to, minute, flats)) {
            return NONE;
        }
        return what == 0 ? route.minutes : pick(route.row, what - 10, route.minutes, NONE);
    }

    public int thief(int house, int person, int from, int to, int minute, int what) {
        if (!hasRoute(house, person, from, to, minute, Route.THIEF)) {
            return NONE;
        }
        if (what == 0) {
            return route.cost;
        }
        return what == 1 ? route.minutes : pick(route.row, what - 10, route.minutes, NONE);
    }

    /** Plans the route, if it is not the one planned last; false if there is none, or no such errand. */
    private boolean hasRoute(int house, int person, int from, int to, int minute, int flats) {
        Evening e = eveningAt(house);
        if (e == null || !isErrand(e.house, person, from, to, minute)) {
            return false;
        }
        if (route.isNew(house, person, from, to, minute, flats)) {
            others.watch(e, person, minute + 1, MOST_WAY);
            route.plan(e, others);
        }
        return route.minutes != NONE;
    }

    private static boolean isErrand(House h, int person, int from, int to, int minute) {
        return h.hasPerson(person) && h.hasStep(from) && h.hasStep(to) && minute >= 0 && minute < MINUTES;
    }

    public int apart(int house, int what) {
        Evening e = eveningAt(house);
        if (e == null) {
            return NONE;
        }
        wardrobe.dress(e);
        return what == 0 ? wardrobe.shoes : pick(wardrobe.worn, what - 10, e.house.people, NONE);
    }

    public int worth(int house, int step, int thicker) {
        Evening e = eveningAt(house);
        if (e == null || thicker < 1 || thicker > MOST_CARPET || step != NONE && !e.house.hasStep(step)) {
            return ABSENT;
        }
        e.tallySaved(thicker);
        return step == NONE ? e.mostTallied() : e.tally[step];
    }

    public int sound(int reading, int k, int what) {
        Reading r = readingAt(reading);
        if (r == null) {
            return ABSENT;
        }
        if (k == NONE) {
            return what == 0 ? r.sounds : ABSENT;
        }
        switch (what) {
            case 0: return pick(r.flat, k, r.sounds, ABSENT);
            case 1: return pick(r.minute, k, r.sounds, ABSENT);
            case 2: return pick(r.shoe, k, r.sounds, ABSENT);
            case 3: return pick(r.echo, k, r.sounds, ABSENT);
            default: return ABSENT;
        }
    }

    public int makers(int house, int reading, int k) {
        House h = houseAt(house);
        Reading r = readingAt(reading);
        if (h == null || r == null || k != NONE && !r.hasSound(k)) {
            return ABSENT;
        }
        return k == NONE ? Witness.liesOf(h, r) : Witness.makersOf(h, r, k);
    }

    public long track(int house, int reading, int person) {
        House h = houseAt(house);
        Reading r = readingAt(reading);
        if (h == null || r == null || !h.hasPerson(person)) {
            return NONE;
        }
        witness.follow(h, r, person);
        return witness.waysOf(h, r);
    }

    public int spots(int house, int reading, int person, int k) {
        House h = houseAt(house);
        Reading r = readingAt(reading);
        if (h == null || r == null || !h.hasPerson(person) || k != NONE && !r.hasSound(k)) {
            return ABSENT;
        }
        witness.follow(h, r, person);
        witness.narrow(r);
        return k == NONE ? witness.sureCount() : witness.spotsOf(k);
    }

    public int drawn(int house, int seed, int k, int what) {
        Evening e = eveningAt(house);
        if (e == null || k < 0 || k > 100) {
            return NONE;
        }
        dream.play(e, seed, k);
        if (what == 0) {
            return dream.treads;
        }
        if (what == 1) {
            return dream.allNotes();
        }
        if (what >= 20) {
            return pick(dream.notes, what - 20, e.house.flats, NONE);
        }
        return pick(dream.on, what - 10, e.house.people, NONE);
    }

    public int ring(int house, int k) {
        Evening e = eveningAt(house);
        if (e == null || e.treads == 0) {
            return NONE;
        }
        return k == NONE ? e.longestRing() : pick(e.rings, k, e.treads, NONE);
    }

    public int meet(int house, int a, int b, boolean pass) {
        Evening e = eveningAt(house);
        if (e == null || a == b || !e.house.hasPerson(a) || !e.house.hasPerson(b)) {
            return NONE;
        }
        return pass ? e.passes(a, b) : e.firstMeeting(a, b);
    }

    public int look(int house, int what) {
        Evening e = eveningAt(house);
        if (e == null || what < 0) {
            return ABSENT;
        }
        int k = what % 10;
        switch (what / 10) {
            case 0: return lookAtAll(e, what);
            case 1: return e.house.hasFlat(k) ? e.shoesHeard(k) : ABSENT;
            case 2: return e.house.hasFlat(k) ? e.quietestStep(k) : ABSENT;
            case 3: return e.house.hasPerson(k) ? e.loudestUnheardShoe(k) : ABSENT;
            case 4: return e.house.hasPerson(k) ? bestBegin(e, k) : ABSENT;
            default: return ABSENT;
        }
    }

    private static int lookAtAll(Evening e, int what) {
        switch (what) {
            case 0: return e.longestHush();
            case 1: return e.busiestStep();
            case 2: return e.house.copies();
            default: return ABSENT;
        }
    }

    private int bestBegin(Evening e, int person) {
        if (!e.house.walks(person)) {
            return NONE;
        }
        others.watch(e, person, 0, MINUTES);
        return delay.best(e, others, person);
    }

    public int count(int sort) {
        return howMany(sort);
    }

    public boolean image(int k) {
        if (k < 0 || k >= MOST_IMAGES) {
            return false;
        }
        if (images[k] == null) {
            images[k] = new Told();
        }
        images[k].copyFrom(told);
        return true;
    }

    public boolean again(int k) {
        if (k < 0 || k >= MOST_IMAGES || images[k] == null) {
            return false;
        }
        told.copyFrom(images[k]);
        for (int i = 0; i < MOST_TEXTS; i++) {
            forgetEvening(i);
        }
        return true;
    }

    /** What was worked out of a house is no longer true once another one stands in its place. */
    private void forgetEvening(int house) {
        if (evenings[house] != null) {
            evenings[house].fresh = false;
        }
        route.forget();
    }

    private House houseAt(int house) {
        return house >= 0 && house < told.houseCount ? told.houses[house] : null;
    }

    private Reading readingAt(int reading) {
        return reading >= 0 && reading < told.readingCount ? told.readings[reading] : null;
    }

    private Evening eveningAt(int house) {
        House h = houseAt(house);
        if (h == null) {
            return null;
        }
        // The widest rows of all, so they are made only for a house that is asked about, and then used again.
        if (evenings[house] == null) {
            evenings[house] = new Evening(h);
        }
        if (!evenings[house].fresh) {
            evenings[house].walkAll();
        }
        return evenings[house];
    }

    /** The row's number at a place below size, or the other answer where the row has none. */
    private static int pick(int[] row, int at, int size, int other) {
        return at >= 0 && at < size && at < row.length ? row[at] : other;
    }

    private static boolean has(int bits, int bit) {
        return (bits >> bit & 1) != 0;
    }

    /** A house as its text tells it. */
    private static final class House {
        int steps;
        int keep;
        int flats;
        int people;
        int changes;
        final int[] carpet = new int[MOST_STEPS];
        final int[] flatStep = new int[MOST_FLATS];
        final int[] ear = new int[MOST_FLATS];
        final int[] shoe = new int[MOST_PEOPLE];
        final int[] weight = new int[MOST_PEOPLE];
        final int[] rise = new int[MOST_PEOPLE];
        final int[] begin = new int[MOST_PEOPLE];
        final int[] start = new int[MOST_PEOPLE];
        final int[] goals = new int[MOST_PEOPLE];
        final int[] goal = new int[MOST_PEOPLE * MOST_GOALS];
        final int[] changer = new int[MOST_CHANGES];
        final int[] changeMinute = new int[MOST_CHANGES];
        final int[] changeShoe = new int[MOST_CHANGES];

        void clear() {
            steps = 12;
            keep = 60;
            flats = 0;
            people = 0;
            changes = 0;
            Arrays.fill(carpet, 0);
            Arrays.fill(begin, NONE);
            Arrays.fill(start, NONE);
            Arrays.fill(goals, 0);
        }

        void copyFrom(House h) {
            steps = h.steps;
            keep = h.keep;
            flats = h.flats;
            people = h.people;
            changes = h.changes;
            System.arraycopy(h.carpet, 0, carpet, 0, MOST_STEPS);
            System.arraycopy(h.flatStep, 0, flatStep, 0, MOST_FLATS);
            System.arraycopy(h.ear, 0, ear, 0, MOST_FLATS);
            System.arraycopy(h.shoe, 0, shoe, 0, MOST_PEOPLE);
            System.arraycopy(h.weight, 0, weight, 0, MOST_PEOPLE);
            System.arraycopy(h.rise, 0, rise, 0, MOST_PEOPLE);
            System.arraycopy(h.begin, 0, begin, 0, MOST_PEOPLE);
            System.arraycopy(h.start, 0, start, 0, MOST_PEOPLE);
            System.arraycopy(h.goals, 0, goals, 0, MOST_PEOPLE);
            System.arraycopy(h.goal, 0, goal, 0, MOST_PEOPLE * MOST_GOALS);
            System.arraycopy(h.changer, 0, changer, 0, MOST_CHANGES);
            System.arraycopy(h.changeMinute, 0, changeMinute, 0, MOST_CHANGES);
            System.arraycopy(h.changeShoe, 0, changeShoe, 0, MOST_CHANGES);
        }

        boolean hasStep(int step) {
            return step >= 0 && step < steps;
        }

        boolean hasFlat(int flat) {
            return flat >= 0 && flat < flats;
        }

        boolean hasPerson(int person) {
            return person >= 0 && person < people;
        }

        boolean walks(int person) {
            return goals[person] > 0;
        }

        int allFlats() {
            return (1 << flats) - 1;
        }

        int goalOf(int person, int k) {
            return goal[person * MOST_GOALS + k];
        }

        int shoeAt(int person, int minute) {
            int latest = NONE;
            int worn = shoe[person];
            for (int c = 0; c < changes; c++) {
                // Of one minute the last told counts, so an equal minute takes over.
                if (changer[c] == person && changeMinute[c] <= minute && changeMinute[c] >= latest) {
                    latest = changeMinute[c];
                    worn = changeShoe[c];
                }
            }
            return worn;
        }

        int loudOf(int person, int step, int worn) {
            return Math.max(0, weight[person] + worn - carpet[step]);
        }

        boolean hears(int flat, int step, int loud) {
            return loud > 0 && Math.abs(flatStep[flat] - step) <= ear[flat] + loud;
        }

        /** The number of the goal, from the given one on, that one who is on a step still has to go to. */
        int openGoal(int person, int from, int on) {
            int k = from;
            while (k < goals[person] && goalOf(person, k) == on) {
                k++;
            }
            return k;
        }

        /** The step that one treads on next, under way from a step to goal k. */
        int nextStep(int person, int on, int k) {
            int to = goalOf(person, k);
            return to > on ? Math.min(to, on + rise[person]) : Math.max(to, on - rise[person]);
        }

        int copies() {
            int couples = 0;
            for (int a = 0; a < people; a++) {
                for (int b = a + 1; b < people; b++) {
                    if (weight[a] == weight[b] && wearTheSame(a, b)) {
                        couples++;
                    }
                }
            }
            return couples;
        }

        private boolean wearTheSame(int a, int b) {
            for (int t = 0; t < MINUTES; t++) {
                if (shoeAt(a, t) != shoeAt(b, t)) {
                    return false;
                }
            }
            return true;
        }
    }

    /** The sounds of a reading, as its text tells them. */
    private static final class Reading {
        int sounds;
        final int[] flat = new int[MOST_SOUNDS];
        final int[] minute = new int[MOST_SOUNDS];
        final int[] shoe = new int[MOST_SOUNDS];
        final int[] echo = new int[MOST_SOUNDS];

        void copyFrom(Reading r) {
            sounds = r.sounds;
            System.arraycopy(r.flat, 0, flat, 0, MOST_SOUNDS);
            System.arraycopy(r.minute, 0, minute, 0, MOST_SOUNDS);
            System.arraycopy(r.shoe, 0, shoe, 0, MOST_SOUNDS);
            System.arraycopy(r.echo, 0, echo, 0, MOST_SOUNDS);
        }

        boolean hasSound(int k) {
            return k >= 0 && k < sounds;
        }
    }

    /** All that is told, and so all that an image keeps. */
    private static final class Told {
        final byte[] tape = new byte[TAPE_BYTES];
        int size;
        int fault;
        int faultPlace = NONE;
        int houseCount;
        int readingCount;
        final House[] houses = new House[MOST_TEXTS];
        final Reading[] readings = new Reading[MOST_TEXTS];

        Told() {
            for (int i = 0; i < MOST_TEXTS; i++) {
                houses[i] = new House();
                readings[i] = new Reading();
            }
        }

        void append(int number) {
            for (int shift = 24; shift >= 0 && size < TAPE_BYTES; shift -= 8) {
                tape[size] = (byte) (number >> shift);
                size++;
            }
        }

        void copyFrom(Told t) {
            System.arraycopy(t.tape, 0, tape, 0, TAPE_BYTES);
            size = t.size;
            fault = t.fault;
            faultPlace = t.faultPlace;
            houseCount = t.houseCount;
            readingCount = t.readingCount;
            for (int i = 0; i < MOST_TEXTS; i++) {
                houses[i].copyFrom(t.houses[i]);
                readings[i].copyFrom(t.readings[i]);
            }
        }
    }

    /** Reads the tape into a house or a reading of its own, so that a faulty text changes nothing that is told. */
    private static final class Reader {
        private static final int END = 0;
        private static final int WORD = 1;
        private static final int NUMBER = 2;
        private static final int DASH = 3;
        private static final int SEMICOLON = 4;
        private static final int NO_TOKEN = 5;

        private static final int STEPS = 0;
        private static final int KEEP = 1;
        private static final int CARPET = 2;
        private static final int FLAT = 3;
        private static final int PERSON = 4;
        private static final int WALK = 5;
        private static final int CHANGE = 6;
        private static final int HEARD = 7;

        private static final int CANNOT_GO_ON = 1;
        private static final int CANNOT_BE = 2;
        private static final int TOO_MANY = 3;
        private static final int NOT_THERE = 4;

        /** How many values a line of each kind has, and, four a kind, the least and the most that each may be. */
        private static final int[] SLOTS = {1, 1, 2, 2, 3, 4, 3, 4};
        private static final int[] LEAST = {
            2, 0, 0, 0,  0, 0, 0, 0,  0, 0, 0, 0,  0, 0, 0, 0,  0, 1, 1, 0,  0, 0, 0, 0,  0, 0, 0, 0,  0, 0, 0, 0};
        private static final int[] MOST = {
            24, 0, 0, 0,  99, 0, 0, 0,  23, 9, 0, 0,  23, 9, 0, 0,  9, 9, 4, 0,  5, 60, 23, 23,  5, 99, 9, 0,  5, 99, 9, 9};
        /** The slot of a walk's first goal, and of a sound's echo. */
        private static final int LAST_SLOT = 3;

        final House house = new House();
        final Reading reading = new Reading();
        int fault;
        int faultPlace;
        private final byte[] tape;
        private int size;
        private int at;
        private int token;
        private int tokenPlace;
        private int number;
        private final int[] values = new int[LAST_SLOT + MOST_GOALS];
        private int goals;
        private int highestStep;
        private int highestPerson;

        Reader(byte[] tape) {
            this.tape = tape;
        }

        void read(int sort, int bytes) {
            size = Math.min(bytes, tape.length);
            at = 0;
            fault = 0;
            faultPlace = NONE;
            highestStep = NONE;
            highestPerson = NONE;
            house.clear();
            reading.sounds = 0;
            nextToken();
            // Each line takes a byte at least, so there are no more of them than bytes.
            for (int i = 0; i <= size && token != END && fault != CANNOT_GO_ON; i++) {
                readLine(sort);
            }
            boolean strays = highestStep >= house.steps || highestPerson >= house.people;
            if (sort == HOUSES && strays) {
                blame(NOT_THERE, size);
            }
        }

        private void readLine(int sort) {
            int line = lineAtToken(sort);
            if (line == NONE) {
                breakOff();
                return;
            }
            if (isFull(line)) {
                blame(TOO_MANY, tokenPlace);
            }
            nextToken();
            for (int slot = 0; slot < SLOTS[line]; slot++) {
                if (!readValue(line, slot)) {
                    breakOff();
                    return;
                }
            }
            if (line == WALK) {
                readFurtherGoals();
            }
            if (token != SEMICOLON) {
                breakOff();
                return;
            }
            nextToken();
            // Behind a fault nothing is told any more, so every number that is kept is one that can be.
            if (fault == 0) {
                tell(line);
            }
        }

        private int lineAtToken(int sort) {
            int first = sort == HOUSES ? STEPS : HEARD;
            int last = sort == HOUSES ? CHANGE : HEARD;
            for (int line = first; line <= last; line++) {
                if (token == WORD && tokenIs(wordOf(line))) {
                    return line;
                }
            }
            return NONE;
        }

        private static String wordOf(int line) {
            switch (line) {
                case STEPS: return "steps";
                case KEEP: return "keep";
                case CARPET: return "carpet";
                case FLAT: return "flat";
                case PERSON: return "person";
                case WALK: return "walk";
                case CHANGE: return "change";
                default: return "heard";
            }
        }

        private boolean tokenIs(String word) {
            if (at - tokenPlace != word.length()) {
                return false;
            }
            for (int i = 0; i < word.length(); i++) {
                if (tape[tokenPlace + i] != word.charAt(i)) {
                    return false;
                }
            }
            return true;
        }

        private boolean isFull(int line) {
            switch (line) {
                case FLAT: return house.flats >= MOST_FLATS;
                case PERSON: return house.people >= MOST_PEOPLE;
                case CHANGE: return house.changes >= MOST_CHANGES;
                case HEARD: return reading.sounds >= MOST_SOUNDS;
                default: return false;
            }
        }

        private boolean readValue(int line, int slot) {
            if (line == HEARD && slot == LAST_SLOT && token == DASH) {
                values[slot] = NONE;
            } else if (token == NUMBER) {
                weigh(line, slot);
                values[slot] = number;
            } else {
                return false;
            }
            nextToken();
            return true;
        }

        private void readFurtherGoals() {
            goals = 1;
            for (int i = 0; i < size && token == NUMBER; i++) {
                // A goal that can't be is blamed ahead of one too many: of one place the lesser fault counts.
                weigh(WALK, LAST_SLOT);
                if (goals < MOST_GOALS) {
                    values[LAST_SLOT + goals] = number;
                    goals++;
                } else {
                    blame(TOO_MANY, tokenPlace);
                }
                nextToken();
            }
        }

        private void weigh(int line, int slot) {
            int limit = line * (LAST_SLOT + 1) + slot;
            if (number < LEAST[limit] || number > MOST[limit]) {
                blame(CANNOT_BE, tokenPlace);
            }
        }

        /** Reading goes by place, so the fault that is found first is the first by place. */
        private void blame(int what, int place) {
            if (fault == 0) {
                fault = what;
                faultPlace = place;
            }
        }

        private void breakOff() {
            fault = CANNOT_GO_ON;
            faultPlace = tokenPlace;
        }

        private void tell(int line) {
            switch (line) {
                case STEPS: house.steps = values[0]; break;
                case KEEP: house.keep = values[0]; break;
                case CARPET: tellCarpet(); break;
                case FLAT: tellFlat(); break;
                case PERSON: tellPerson(); break;
                case WALK: tellWalk(); break;
                case CHANGE: tellChange(); break;
                default: tellSound(); break;
            }
        }

        private void tellCarpet() {
            house.carpet[values[0]] = values[1];
            highestStep = Math.max(highestStep, values[0]);
        }

        private void tellFlat() {
            house.flatStep[house.flats] = values[0];
            house.ear[house.flats] = values[1];
            house.flats++;
            highestStep = Math.max(highestStep, values[0]);
        }

        private void tellPerson() {
            house.shoe[house.people] = values[0];
            house.weight[house.people] = values[1];
            house.rise[house.people] = values[2];
            house.people++;
        }

        private void tellWalk() {
            int who = values[0];
            house.begin[who] = values[1];
            house.start[who] = values[2];
            house.goals[who] = goals;
            highestPerson = Math.max(highestPerson, who);
            highestStep = Math.max(highestStep, values[2]);
            for (int k = 0; k < goals; k++) {
                house.goal[who * MOST_GOALS + k] = values[LAST_SLOT + k];
                highestStep = Math.max(highestStep, values[LAST_SLOT + k]);
            }
        }

        private void tellChange() {
            house.changer[house.changes] = values[0];
            house.changeMinute[house.changes] = values[1];
            house.changeShoe[house.changes] = values[2];
            house.changes++;
            highestPerson = Math.max(highestPerson, values[0]);
        }

        private void tellSound() {
            reading.flat[reading.sounds] = values[0];
            reading.minute[reading.sounds] = values[1];
            reading.shoe[reading.sounds] = values[2];
            reading.echo[reading.sounds] = values[LAST_SLOT];
            reading.sounds++;
        }

        private void nextToken() {
            while (at < size && isBlank(tape[at])) {
                at++;
            }
            tokenPlace = at;
            if (at >= size) {
                token = END;
            } else if (isLetter(tape[at])) {
                readWord();
            } else if (isDigit(tape[at])) {
                readNumber();
            } else {
                token = tape[at] == '-' ? DASH : tape[at] == ';' ? SEMICOLON : NO_TOKEN;
                at++;
            }
        }

        private void readWord() {
            token = WORD;
            while (at < size && isLetter(tape[at])) {
                at++;
            }
        }

        private void readNumber() {
            number = 0;
            while (at < size && isDigit(tape[at])) {
                if (at - tokenPlace < 2) {
                    number = number * 10 + tape[at] - '0';
                }
                at++;
            }
            token = at - tokenPlace <= 2 ? NUMBER : NO_TOKEN;
        }

        private static boolean isBlank(int sign) {
            return sign == 10 || sign == 32;
        }

        private static boolean isLetter(int sign) {
            return sign >= 'a' && sign <= 'z';
        }

        private static boolean isDigit(int sign) {
            return sign >= '0' && sign <= '9';
        }
    }

    /** What follows from a house as it is told: all treads with their echoes, and who hears them. */
    private static final class Evening {
        final House house;
        boolean fresh;
        int treads;
        final int[] who = new int[MOST_TREADS];
        final int[] step = new int[MOST_TREADS];
        final int[] minute = new int[MOST_TREADS];
        final int[] shoe = new int[MOST_TREADS];
        final int[] loud = new int[MOST_TREADS];
        final int[] echo = new int[MOST_TREADS];
        final int[] heard = new int[MOST_TREADS];
        final int[] echoHeard = new int[MOST_TREADS];
        final int[] rings = new int[MOST_TREADS];
        final int[] last = new int[MOST_PEOPLE];
        final int[] tally = new int[MOST_STEPS + 1];
        private final int[] hearing = new int[MOST_STEPS * (MOST_LOUD + 1)];
        private final int[] spot = new int[MOST_PEOPLE * MINUTES];
        private final int[] latest = new int[MOST_STEPS];
        private final int[] on = new int[MOST_PEOPLE];
        private final int[] goal = new int[MOST_PEOPLE];

        Evening(House house) {
            this.house = house;
        }

        void walkAll() {
            treads = 0;
            Arrays.fill(last, NONE);
            Arrays.fill(latest, NONE);
            Arrays.fill(on, NONE);
            Arrays.fill(goal, 0);
            listen();
            for (int t = 0; t < MINUTES; t++) {
                for (int p = 0; p < house.people; p++) {
                    if (goes(p, t)) {
                        addTread(p, t);
                    }
                    spot[p * MINUTES + t] = on[p];
                }
            }
            fresh = true;
        }

        /** Which flats hear what is so loud on a step, for every step and loudness. */
        private void listen() {
            Arrays.fill(hearing, 0);
            for (int s = 0; s < house.steps; s++) {
                for (int f = 0; f < house.flats; f++) {
                    int far = Math.abs(house.flatStep[f] - s);
                    for (int l = Math.max(1, far - house.ear[f]); l <= MOST_LOUD; l++) {
                        hearing[s * (MOST_LOUD + 1) + l] |= 1 << f;
                    }
                }
            }
        }

        int hearers(int onStep, int howLoud) {
            if (onStep < 0 || onStep >= MOST_STEPS || howLoud < 0 || howLoud > MOST_LOUD) {
                return 0;
            }
            return hearing[onStep * (MOST_LOUD + 1) + howLoud];
        }

        private boolean goes(int p, int t) {
            if (!house.walks(p) || t < house.begin[p]) {
                return false;
            }
            if (t == house.begin[p]) {
                on[p] = house.start[p];
                return true;
            }
            goal[p] = house.openGoal(p, goal[p], on[p]);
            if (goal[p] >= house.goals[p]) {
                return false;
            }
            on[p] = house.nextStep(p, on[p], goal[p]);
            return true;
        }

        private void addTread(int p, int t) {
            if (treads >= MOST_TREADS) {
                return;
            }
            int k = treads;
            int s = on[p];
            int ahead = latest[s];
            who[k] = p;
            step[k] = s;
            minute[k] = t;
            shoe[k] = house.shoeAt(p, t);
            loud[k] = house.loudOf(p, s, shoe[k]);
            echo[k] = ahead != NONE && t - minute[ahead] <= house.keep ? ahead : NONE;
            heard[k] = hearers(s, loud[k]);
            echoHeard[k] = echo[k] == NONE ? 0 : hearers(s, loud[ahead] / 2);
            rings[k] = echo[k] == NONE ? 1 : rings[ahead] + 1;
            latest[s] = k;
            last[p] = t;
            treads++;
        }

        int spotAt(int person, int t) {
            return pick(spot, person * MINUTES + t, spot.length, NONE);
        }

        int notedBy(int k) {
            return heard[k] | echoHeard[k];
        }

        int noteCount(int flat) {
            int notes = 0;
            for (int k = 0; k < treads; k++) {
                if (has(notedBy(k), flat)) {
                    notes++;
                }
            }
            return notes;
        }

        int ghostCount(int flat) {
            int ghosts = 0;
            for (int k = 0; k < treads; k++) {
                if (isGhost(k, flat)) {
                    ghosts++;
                }
            }
            return ghosts;
        }

        /** The tread that is a flat's n-th note, or NONE. */
        int noteNumber(int flat, int n) {
            int notes = 0;
            for (int k = 0; k < treads; k++) {
                if (has(notedBy(k), flat)) {
                    if (notes == n) {
                        return k;
                    }
                    notes++;
                }
            }
            return NONE;
        }

        boolean isGhost(int k, int flat) {
            return has(echoHeard[k], flat) && echo[k] != NONE && last[who[echo[k]]] < minute[k];
        }

        int echoShoe(int k, int flat) {
            return has(echoHeard[k], flat) && echo[k] != NONE ? shoe[echo[k]] : NONE;
        }

        int unheardPeople() {
            int bits = (1 << house.people) - 1;
            for (int k = 0; k < treads; k++) {
                if (heard[k] != 0) {
                    bits &= ~(1 << who[k]);
                }
            }
            return bits;
        }

        int longestRing() {
            int most = 0;
            for (int k = 0; k < treads; k++) {
                most = Math.max(most, rings[k]);
            }
            return most;
        }

        int firstMeeting(int a, int b) {
            for (int t = 0; t < MINUTES; t++) {
                if (spotAt(a, t) != NONE && spotAt(a, t) == spotAt(b, t)) {
                    return t;
                }
            }
            return NONE;
        }

        int passes(int a, int b) {
            int passes = 0;
            for (int t = 1; t < MINUTES; t++) {
                if (spotAt(a, t - 1) != NONE && spotAt(b, t - 1) != NONE) {
                    int before = Integer.signum(spotAt(a, t - 1) - spotAt(b, t - 1));
                    int now = Integer.signum(spotAt(a, t) - spotAt(b, t));
                    if (now != 0 && now != before) {
                        passes++;
                    }
                }
            }
            return passes;
        }

        int longestHush() {
            int hush = 0;
            int noted = NONE;
            for (int k = 0; k < treads; k++) {
                if (notedBy(k) != 0) {
                    hush = Math.max(hush, minute[k] - noted - 1);
                    noted = minute[k];
                }
            }
            return Math.max(hush, MINUTES - noted - 1);
        }

        int busiestStep() {
            if (treads == 0) {
                return NONE;
            }
            Arrays.fill(tally, 0);
            for (int k = 0; k < treads; k++) {
                tally[step[k]]++;
            }
            return mostTallied();
        }

        int mostTallied() {
            int best = 0;
            for (int s = 1; s < house.steps; s++) {
                if (tally[s] > tally[best]) {
                    best = s;
                }
            }
            return best;
        }

        /**
         * Tallies for each step how many notes fewer there were with a thicker carpet on it. A carpet touches the
         * treads and echoes of its own step alone, so all steps are told in one pass.
         */
        void tallySaved(int thicker) {
            Arrays.fill(tally, 0);
            for (int k = 0; k < treads; k++) {
                int noted = hearers(step[k], dampened(k, thicker));
                if (echo[k] != NONE) {
                    noted |= hearers(step[k], dampened(echo[k], thicker) / 2);
                }
                tally[step[k]] += Integer.bitCount(notedBy(k)) - Integer.bitCount(noted);
            }
        }

        private int dampened(int k, int thicker) {
            int carpet = Math.min(MOST_CARPET, house.carpet[step[k]] + thicker);
            return Math.max(0, house.weight[who[k]] + shoe[k] - carpet);
        }

        int shoesHeard(int flat) {
            int bits = 0;
            for (int k = 0; k < treads; k++) {
                if (has(heard[k], flat)) {
                    bits |= 1 << shoe[k];
                }
            }
            return Integer.bitCount(bits);
        }

        /**
         * The step on which a flat had fewest notes. A tread is noted on a stretch of steps around it, so the tally
         * holds where stretches begin and end, and a running sum gives the notes of each step.
         */
        int quietestStep(int flat) {
            Arrays.fill(tally, 0);
            for (int k = 0; k < treads; k++) {
                int loudest = Math.max(loud[k], echo[k] == NONE ? 0 : loud[echo[k]] / 2);
                if (loudest > 0) {
                    int reach = house.ear[flat] + loudest;
                    tally[Math.max(0, step[k] - reach)]++;
                    tally[Math.min(house.steps, step[k] + reach + 1)]--;
                }
            }
            int notes = tally[0];
            int fewest = notes;
            int best = 0;
            for (int s = 1; s < house.steps; s++) {
                notes += tally[s];
                if (notes < fewest) {
                    fewest = notes;
                    best = s;
                }
            }
            return best;
        }

        int loudestUnheardShoe(int person) {
            for (int worn = MOST_SHOE; worn >= 0; worn--) {
                if (isUnheardIn(person, worn)) {
                    return worn;
                }
            }
            return NONE;
        }

        private boolean isUnheardIn(int person, int worn) {
            for (int k = 0; k < treads; k++) {
                if (who[k] == person && hearers(step[k], house.loudOf(person, step[k], worn)) != 0) {
                    return false;
                }
            }
            return true;
        }
    }

    /** For one of the people and a row of minutes: which treads of all others he would wake, and which cover him. */
    private static final class Others {
        private int first;
        private int minutes;
        private final int[] latest = new int[MINUTES * MOST_STEPS];
        private final int[] trodden = new int[MINUTES];
        private final int[] now = new int[MOST_STEPS];

        void watch(Evening e, int person, int fromMinute, int forMinutes) {
            first = fromMinute;
            minutes = Math.min(forMinutes, MINUTES);
            Arrays.fill(now, NONE);
            Arrays.fill(trodden, 0);
            int k = 0;
            for (int i = 0; i < minutes; i++) {
                while (k < e.treads && isAhead(e, k, person, first + i)) {
                    if (e.who[k] != person) {
                        now[e.step[k]] = k;
                    }
                    k++;
                }
                System.arraycopy(now, 0, latest, i * MOST_STEPS, MOST_STEPS);
            }
            markTrodden(e, person);
        }

        private static boolean isAhead(Evening e, int k, int person, int minute) {
            return e.minute[k] < minute || e.minute[k] == minute && e.who[k] < person;
        }

        private void markTrodden(Evening e, int person) {
            for (int k = 0; k < e.treads; k++) {
                int i = e.minute[k] - first;
                if (e.who[k] != person && i >= 0 && i < minutes) {
                    trodden[i] |= 1 << e.step[k];
                }
            }
        }

        /** The number of the latest tread of another one on a step, ahead of his own in that minute, or NONE. */
        int latestOn(int step, int minute) {
            int i = minute - first;
            return i >= 0 && i < minutes ? pick(latest, i * MOST_STEPS + step, latest.length, NONE) : NONE;
        }

        boolean cover(int step, int minute) {
            int i = minute - first;
            return i >= 0 && i < minutes && has(trodden[i], step);
        }
    }

    /** The best row of steps from one step to another one, of a tenant going home or of a thief. */
    private static final class Route {
        /** In the place of flats: all of them, and being heard costs but is not forbidden. */
        static final int THIEF = -1;
        private static final int WALL = 1000;

        int cost;
        int minutes = NONE;
        final int[] row = new int[MOST_WAY];
        private int house = NONE;
        private int person;
        private int from;
        private int to;
        private int minute;
        private int flats;
        private final int[] price = new int[(MOST_WAY + 1) * MOST_STEPS];
        private final int[] least = new int[(MOST_WAY + 1) * MOST_STEPS];
        private final int[] useful = new int[MOST_WAY + 1];

        void forget() {
            house = NONE;
        }

        /** Takes the errand; false if it is the one that was planned last, which need not be planned again. */
        boolean isNew(int ofHouse, int ofPerson, int fromStep, int toStep, int fromMinute, int byFlats) {
            boolean same = house == ofHouse && person == ofPerson && from == fromStep && to == toStep
                && minute == fromMinute && flats == byFlats;
            house = ofHouse;
            person = ofPerson;
            from = fromStep;
            to = toStep;
            minute = fromMinute;
            flats = byFlats;
            return !same;
        }

        void plan(Evening e, Others others) {
            House h = e.house;
            cost = from == to ? 0 : WALL;
            minutes = from == to ? 0 : NONE;
            for (int s = 0; s < h.steps; s++) {
                least[s] = s == from ? 0 : WALL;
            }
            // A way that costs nothing can't be bettered by a longer one.
            for (int i = 1; i <= MOST_WAY && cost > 0; i++) {
                setPrices(e, others, i);
                for (int s = 0; s < h.steps; s++) {
                    least[i * MOST_STEPS + s] = leastAt(h, i, s);
                }
                if (least[i * MOST_STEPS + to] < cost) {
                    cost = least[i * MOST_STEPS + to];
                    minutes = i;
                }
            }
            if (minutes != NONE) {
                markUseful(h);
                layRow(h);
            }
        }

        private void setPrices(Evening e, Others others, int i) {
            int t = minute + i;
            int worn = e.house.shoeAt(person, t);
            for (int s = 0; s < e.house.steps; s++) {
                int heard = e.hearers(s, e.house.loudOf(person, s, worn));
                int ahead = others.latestOn(s, t);
                if (ahead != NONE && t - e.minute[ahead] <= e.house.keep) {
                    heard |= e.hearers(s, e.loud[ahead] / 2);
                }
                price[i * MOST_STEPS + s] = priceOf(heard, others.cover(s, t));
            }
        }

        private int priceOf(int heard, boolean covered) {
            if (flats == THIEF) {
                return heard != 0 && !covered ? 1 : 0;
            }
            return (heard & flats) != 0 ? WALL : 0;
        }

        private int leastAt(House h, int i, int s) {
            int before = (i - 1) * MOST_STEPS;
            int going = WALL;
            int lowest = Math.max(0, s - h.rise[person]);
            int highest = Math.min(h.steps - 1, s + h.rise[person]);
            for (int r = lowest; r <= highest; r++) {
                if (r != s) {
                    going = Math.min(going, least[before + r]);
                }
            }
            int staying = least[before + s];
            return Math.min(staying, Math.min(WALL, going + price[i * MOST_STEPS + s]));
        }

        /** Marks, minute by minute back from the end, the steps from which a best row goes on. */
        private void markUseful(House h) {
            useful[minutes] = 1 << to;
            for (int i = minutes - 1; i >= 0; i--) {
                useful[i] = 0;
                for (int s = 0; s < h.steps; s++) {
                    if (least[i * MOST_STEPS + s] < WALL && onward(h, i, s) != NONE) {
                        useful[i] |= 1 << s;
                    }
                }
            }
        }

        /** The lowest step of a best row on which one can be a minute after having been on step s, or NONE. */
        private int onward(House h, int i, int s) {
            int lowest = Math.max(0, s - h.rise[person]);
            int highest = Math.min(h.steps - 1, s + h.rise[person]);
            int after = (i + 1) * MOST_STEPS;
            for (int r = lowest; r <= highest; r++) {
                int paid = least[i * MOST_STEPS + s] + (r == s ? 0 : price[after + r]);
                if (has(useful[i + 1], r) && paid == least[after + r]) {
                    return r;
                }
            }
            return NONE;
        }

        private void layRow(House h) {
            int s = from;
            for (int i = 0; i < minutes; i++) {
                int next = onward(h, i, s);
                s = next == NONE ? s : next;
                row[i] = s;
            }
        }
    }

    /** Looks for the minute in which one had better begin his walk. */
    private static final class Delay {
        private int length;
        private final int[] path = new int[MINUTES];
        private final int[] before = new int[MINUTES];
        private final int[] shoes = new int[MINUTES];
        private final int[] latest = new int[MOST_STEPS];

        int best(Evening e, Others others, int person) {
            layPath(e.house, person);
            for (int t = 0; t < MINUTES; t++) {
                shoes[t] = e.house.shoeAt(person, t);
            }
            int best = 0;
            int fewest = notesFrom(e, others, person, 0);
            for (int begin = 1; begin <= LAST_BEGIN; begin++) {
                int notes = notesFrom(e, others, person, begin);
                if (notes < fewest) {
                    fewest = notes;
                    best = begin;
                }
            }
            return best;
        }

        /** The steps of the walk, whenever it begins, and for each the walk's own earlier tread on that step. */
        private void layPath(House h, int person) {
            Arrays.fill(latest, NONE);
            int on = h.start[person];
            int goal = 0;
            length = 0;
            boolean going = h.hasStep(on);
            while (going && length < MINUTES) {
                path[length] = on;
                before[length] = latest[on];
                latest[on] = length;
                length++;
                goal = h.openGoal(person, goal, on);
                going = goal < h.goals[person];
                on = going ? h.nextStep(person, on, goal) : on;
            }
        }

        private int notesFrom(Evening e, Others others, int person, int begin) {
            int notes = 0;
            for (int i = 0; i < length && begin + i < MINUTES; i++) {
                int step = path[i];
                int heard = e.hearers(step, e.house.loudOf(person, step, shoes[begin + i]))
                    | e.hearers(step, echoLoud(e, others, person, begin, i));
                notes += Integer.bitCount(heard);
            }
            return notes;
        }

        private int echoLoud(Evening e, Others others, int person, int begin, int i) {
            int step = path[i];
            int other = others.latestOn(step, begin + i);
            int own = before[i] == NONE ? NONE : begin + before[i];
            if (other == NONE && own == NONE) {
                return 0;
            }
            boolean byOther = other != NONE && (own == NONE || e.minute[other] > own
                || e.minute[other] == own && e.who[other] > person);
            int trodden = byOther ? e.minute[other] : own;
            if (begin + i - trodden > e.house.keep) {
                return 0;
            }
            return (byOther ? e.loud[other] : e.house.loudOf(person, step, shoes[own])) / 2;
        }
    }

    /** Gives out the fewest shoes by which all who are mixed are told apart. */
    private static final class Wardrobe {
        int shoes;
        final int[] worn = new int[MOST_PEOPLE];
        private final int[] mixed = new int[MOST_PEOPLE];
        private final int[] heard = new int[MOST_FLATS];

        void dress(Evening e) {
            findMixed(e);
            int people = e.house.people;
            shoes = people == 0 ? 0 : 1;
            // As many shoes as people are always enough.
            while (!giveOut(mixed, worn, shoes, people, 0) && shoes < people) {
                shoes++;
            }
        }

        private void findMixed(Evening e) {
            Arrays.fill(heard, 0);
            Arrays.fill(mixed, 0);
            for (int k = 0; k < e.treads; k++) {
                for (int f = 0; f < e.house.flats; f++) {
                    if (has(e.heard[k], f)) {
                        heard[f] |= 1 << e.who[k];
                    }
                }
            }
            for (int p = 0; p < e.house.people; p++) {
                for (int f = 0; f < e.house.flats; f++) {
                    if (has(heard[f], p)) {
                        mixed[p] |= heard[f];
                    }
                }
            }
        }

        /** Dresses this one and all behind him, by the first way there is; false if there is none. */
        private static boolean giveOut(int[] mixed, int[] worn, int shoes, int people, int person) {
            if (person >= people || person >= worn.length) {
                return true;
            }
            for (int s = 0; s < shoes; s++) {
                worn[person] = s;
                if (isFree(mixed, worn, person) && giveOut(mixed, worn, shoes, people, person + 1)) {
                    return true;
                }
            }
            return false;
        }

        private static boolean isFree(int[] mixed, int[] worn, int person) {
            for (int q = 0; q < person; q++) {
                if (has(mixed[person], q) && worn[q] == worn[person]) {
                    return false;
                }
            }
            return true;
        }
    }

    /** An evening drawn by a seed. */
    private static final class Dream {
        int treads;
        final int[] on = new int[MOST_PEOPLE];
        final int[] notes = new int[MOST_FLATS];
        private int seed;
        private final int[] lastMinute = new int[MOST_STEPS];
        private final int[] lastLoud = new int[MOST_STEPS];

        void play(Evening e, int firstSeed, int k) {
            seed = firstSeed;
            treads = 0;
            Arrays.fill(on, 0);
            Arrays.fill(notes, 0);
            Arrays.fill(lastMinute, NONE);
            for (int t = 0; t < DRAWN_MINUTES; t++) {
                for (int p = 0; p < e.house.people; p++) {
                    if (below(100) < k && goes(e.house, p)) {
                        addTread(e, p, t);
                    }
                }
            }
        }

        private int below(int n) {
            seed = seed * 1103515245 + 12345;
            return n > 0 ? (seed >>> 16) % n : 0;
        }

        private boolean goes(House h, int p) {
            int was = on[p];
            on[p] = below(2) == 0 ? Math.min(h.steps - 1, was + h.rise[p]) : Math.max(0, was - h.rise[p]);
            return on[p] != was;
        }

        private void addTread(Evening e, int p, int t) {
            int s = on[p];
            int loud = e.house.loudOf(p, s, e.house.shoeAt(p, t));
            int heard = e.hearers(s, loud);
            if (lastMinute[s] != NONE && t - lastMinute[s] <= e.house.keep) {
                heard |= e.hearers(s, lastLoud[s] / 2);
            }
            for (int f = 0; f < e.house.flats; f++) {
                if (has(heard, f)) {
                    notes[f]++;
                }
            }
            lastMinute[s] = t;
            lastLoud[s] = loud;
            treads++;
        }

        int allNotes() {
            int all = 0;
            for (int f = 0; f < MOST_FLATS; f++) {
                all += notes[f];
            }
            return all;
        }
    }

    /** Tells of a reading in a house who may have made its sounds, and where. */
    private static final class Witness {
        private int rise;
        private int length;
        private final int[] order = new int[MOST_SOUNDS];
        private final int[] steps = new int[MOST_SOUNDS];
        private long[] ways = new long[MOST_STEPS];
        private long[] nextWays = new long[MOST_STEPS];

        static int liesOf(House h, Reading r) {
            int bits = 0;
            for (int k = 0; k < r.sounds; k++) {
                if (makersOf(h, r, k) == 0) {
                    bits |= 1 << k;
                }
            }
            return bits;
        }

        static int makersOf(House h, Reading r, int k) {
            int bits = 0;
            for (int p = 0; p < h.people; p++) {
                if (stepsOf(h, r, k, p) != 0) {
                    bits |= 1 << p;
                }
            }
            return bits;
        }

        /** The steps on which one may have made a sound. */
        private static int stepsOf(House h, Reading r, int k, int person) {
            int flat = r.flat[k];
            if (!h.hasFlat(flat) || h.shoeAt(person, r.minute[k]) != r.shoe[k]) {
                return 0;
            }
            int bits = 0;
            for (int s = 0; s < h.steps; s++) {
                if (h.hears(flat, s, h.loudOf(person, s, r.shoe[k])) && echoFits(h, flat, s, r.echo[k])) {
                    bits |= 1 << s;
                }
            }
            return bits;
        }

        private static boolean echoFits(House h, int flat, int step, int echo) {
            if (echo == NONE) {
                return true;
            }
            for (int p = 0; p < h.people; p++) {
                if (h.shoe[p] == echo && h.hears(flat, step, h.loudOf(p, step, echo) / 2)) {
                    return true;
                }
            }
            return false;
        }

        /** Lays out, by minutes and numbers, the sounds of which one has the shoe, with the steps of each. */
        void follow(House h, Reading r, int person) {
            rise = h.rise[person];
            length = 0;
            for (int k = 0; k < r.sounds; k++) {
                if (h.shoeAt(person, r.minute[k]) == r.shoe[k]) {
                    insert(r, k);
                }
            }
            for (int i = 0; i < length; i++) {
                steps[i] = stepsOf(h, r, order[i], person);
            }
        }

        private void insert(Reading r, int k) {
            int i = length;
            while (i > 0 && r.minute[order[i - 1]] > r.minute[k]) {
                order[i] = order[i - 1];
                i--;
            }
            order[i] = k;
            length++;
        }

        /** How far he can go from the sound ahead of the i-th one to that one. */
        private int reachTo(Reading r, int i) {
            return rise * (r.minute[order[i]] - r.minute[order[i - 1]]);
        }

        long waysOf(House h, Reading r) {
            // Without any sound there is one way: to have made none.
            if (length == 0) {
                return 1;
            }
            for (int s = 0; s < h.steps; s++) {
                ways[s] = has(steps[0], s) ? 1 : 0;
            }
            for (int i = 1; i < length; i++) {
                for (int s = 0; s < h.steps; s++) {
                    nextWays[s] = has(steps[i], s) ? waysWithin(h, s, reachTo(r, i)) : 0;
                }
                long[] spent = ways;
                ways = nextWays;
                nextWays = spent;
            }
            long all = 0;
            for (int s = 0; s < h.steps; s++) {
                all += ways[s];
            }
            return all;
        }

        private long waysWithin(House h, int step, int reach) {
            long sum = 0;
            int highest = Math.min(h.steps - 1, step + reach);
            for (int s = Math.max(0, step - reach); s <= highest; s++) {
                sum += ways[s];
            }
            return sum;
        }

        /** Leaves of each sound's steps those that stand in any way that fits all sounds. */
        void narrow(Reading r) {
            for (int i = 1; i < length; i++) {
                steps[i] &= spread(steps[i - 1], reachTo(r, i));
            }
            for (int i = length - 1; i > 0; i--) {
                steps[i - 1] &= spread(steps[i], reachTo(r, i));
            }
        }

        private static int spread(int bits, int reach) {
            int wide = bits;
            for (int d = 1; d <= reach && d < MOST_STEPS; d++) {
                wide |= bits << d | bits >>> d;
            }
            return wide;
        }

        int spotsOf(int k) {
            for (int i = 0; i < length; i++) {
                if (order[i] == k) {
                    return steps[i];
                }
            }
            return 0;
        }

        int sureCount() {
            int sure = 0;
            for (int i = 0; i < length; i++) {
                if (Integer.bitCount(steps[i]) == 1) {
                    sure++;
                }
            }
            return sure;
        }
    }
}
