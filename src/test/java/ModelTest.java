import java.util.ArrayList;
import java.util.Arrays;
import java.util.HashSet;
import java.util.List;
import java.util.Random;
import java.util.Set;

/**
 * Compares EchoStair with a second reading of the document that is as slow and plain as can be: whatever the class
 * answers by a shortcut is here built anew from whole evenings. Texts and questions come from fixed seeds.
 */
public final class ModelTest {
    static final int NONE = -1;
    static int checks = 0;
    static int wrong = 0;

    // ---------------------------------------------------------------- the model

    static final class Flat {
        int step;
        int ear;
    }

    static final class Person {
        int shoe;
        int weight;
        int rise;
    }

    static final class Walk {
        int minute;
        int step;
        List<Integer> goals = new ArrayList<>();
    }

    static final class Tread {
        int who;
        int step;
        int minute;
        int shoe;
        int loud;
        Tread echo;
    }

    static final class House {
        int steps = 12;
        int keep = 60;
        int[] carpet = new int[24];
        List<Flat> flats = new ArrayList<>();
        List<Person> people = new ArrayList<>();
        Walk[] walks = new Walk[6];
        List<int[]> changes = new ArrayList<>();

        int shoe(int p, int t) {
            int[] best = null;
            for (int[] c : changes) {
                if (c[0] == p && c[1] <= t && (best == null || c[1] >= best[1])) {
                    best = c;
                }
            }
            return best == null ? people.get(p).shoe : best[2];
        }

        int loud(int p, int s, int shoe) {
            return Math.max(0, people.get(p).weight + shoe - carpet[s]);
        }

        boolean hears(int f, int s, int loud) {
            return loud > 0 && Math.abs(flats.get(f).step - s) <= flats.get(f).ear + loud;
        }

        int bits(int s, int loud) {
            int bits = 0;
            for (int f = 0; f < flats.size(); f++) {
                if (hears(f, s, loud)) {
                    bits |= 1 << f;
                }
            }
            return bits;
        }

        int heard(Tread t) {
            return bits(t.step, t.loud);
        }

        int echoHeard(Tread t) {
            return t.echo == null ? 0 : bits(t.step, t.echo.loud / 2);
        }

        int noted(Tread t) {
            return heard(t) | echoHeard(t);
        }

        /** Where one is, minute by minute to 99, and whether he treads there: {step or NONE, 1 or 0}. */
        int[][] way(int p) {
            int[][] way = new int[100][];
            Walk w = walks[p];
            int on = NONE;
            List<Integer> left = w == null ? new ArrayList<>() : new ArrayList<>(w.goals);
            for (int t = 0; t < 100; t++) {
                boolean treads = false;
                if (w != null && t == w.minute) {
                    on = w.step;
                    treads = true;
                } else if (w != null && t > w.minute && !left.isEmpty()) {
                    int to = left.get(0);
                    for (int i = 0; i < people.get(p).rise && on != to; i++) {
                        on += to > on ? 1 : -1;
                    }
                    treads = true;
                }
                while (on != NONE && !left.isEmpty() && left.get(0) == on) {
                    left.remove(0);
                }
                way[t] = new int[] {on, treads ? 1 : 0};
            }
            return way;
        }

        List<Tread> treads() {
            int[][][] ways = new int[people.size()][][];
            for (int p = 0; p < people.size(); p++) {
                ways[p] = way(p);
            }
            List<Tread> all = new ArrayList<>();
            for (int t = 0; t < 100; t++) {
                for (int p = 0; p < people.size(); p++) {
                    if (ways[p][t][1] == 1) {
                        addTread(all, p, ways[p][t][0], t);
                    }
                }
            }
            return all;
        }

        void addTread(List<Tread> all, int p, int s, int t) {
            Tread x = new Tread();
            x.who = p;
            x.step = s;
            x.minute = t;
            x.shoe = shoe(p, t);
            x.loud = loud(p, s, x.shoe);
            x.echo = echoFor(all, s, t);
            all.add(x);
        }

        Tread echoFor(List<Tread> ahead, int s, int t) {
            for (int i = ahead.size() - 1; i >= 0; i--) {
                if (ahead.get(i).step == s) {
                    return t - ahead.get(i).minute <= keep ? ahead.get(i) : null;
                }
            }
            return null;
        }

        int allNotes(List<Tread> all) {
            int n = 0;
            for (Tread t : all) {
                n += Integer.bitCount(noted(t));
            }
            return n;
        }

        int lastMinute(List<Tread> all, int p) {
            int last = NONE;
            for (Tread t : all) {
                if (t.who == p) {
                    last = t.minute;
                }
            }
            return last;
        }
    }

    static final class Sound {
        int flat;
        int minute;
        int shoe;
        int echo;
    }

    static final class State {
        byte[] tape = new byte[0];
        int fault = 0;
        int place = NONE;
        List<House> houses = new ArrayList<>();
        List<List<Sound>> readings = new ArrayList<>();

        State copy() {
            State s = new State();
            s.tape = tape.clone();
            s.fault = fault;
            s.place = place;
            // Houses and readings are never changed once they stand, so that sharing them is safe here.
            s.houses = new ArrayList<>(houses);
            s.readings = new ArrayList<>(readings);
            return s;
        }
    }

    static final class Fault extends Exception {
        private static final long serialVersionUID = 1L;
        final int sort;
        final int place;

        Fault(int sort, int place) {
            this.sort = sort;
            this.place = place;
        }
    }

    /** Reads a text: first all tokens against the grammar, then the numbers, then what is not there. */
    static final class Parser {
        final String text;
        final List<String> words = new ArrayList<>();
        final List<Integer> places = new ArrayList<>();
        int bad = NONE;

        Parser(byte[] tape) {
            StringBuilder b = new StringBuilder();
            for (byte x : tape) {
                b.append((char) (x & 255));
            }
            text = b.toString();
            int i = 0;
            while (i < text.length() && bad == NONE) {
                char c = text.charAt(i);
                int j = i + 1;
                if (c == ' ' || c == '\n') {
                    i++;
                    continue;
                }
                if (c >= 'a' && c <= 'z') {
                    while (j < text.length() && text.charAt(j) >= 'a' && text.charAt(j) <= 'z') {
                        j++;
                    }
                } else if (c >= '0' && c <= '9') {
                    while (j < text.length() && text.charAt(j) >= '0' && text.charAt(j) <= '9') {
                        j++;
                    }
                    if (j - i > 2) {
                        bad = i;
                    }
                } else if (c != '-' && c != ';') {
                    bad = i;
                }
                if (bad == NONE) {
                    words.add(text.substring(i, j));
                    places.add(i);
                }
                i = j;
            }
            words.add("");
            places.add(bad == NONE ? text.length() : bad);
        }

        boolean isNumber(int i) {
            return !words.get(i).isEmpty() && Character.isDigit(words.get(i).charAt(0));
        }

        /** Splits the tokens into lines, each a list of token indices without its semicolon. */
        List<List<Integer>> lines(int sort) throws Fault {
            List<List<Integer>> lines = new ArrayList<>();
            int i = 0;
            while (i < words.size() - 1) {
                List<Integer> line = new ArrayList<>();
                String w = words.get(i);
                int least = -1;
                boolean more = false;
                if (sort == 0) {
                    least = w.equals("steps") || w.equals("keep") ? 1 : w.equals("carpet") || w.equals("flat") ? 2
                        : w.equals("person") || w.equals("change") ? 3 : w.equals("walk") ? 4 : -1;
                    more = w.equals("walk");
                } else if (w.equals("heard")) {
                    least = 4;
                }
                if (least < 0) {
                    throw new Fault(1, places.get(i));
                }
                line.add(i++);
                for (int n = 0; n < least; n++) {
                    if (!isNumber(i) && !(sort == 1 && n == 3 && words.get(i).equals("-"))) {
                        throw new Fault(1, places.get(i));
                    }
                    line.add(i++);
                }
                while (more && isNumber(i)) {
                    line.add(i++);
                }
                if (!words.get(i).equals(";")) {
                    throw new Fault(1, places.get(i));
                }
                i++;
                lines.add(line);
            }
            if (bad != NONE) {
                throw new Fault(1, bad);
            }
            return lines;
        }

        int number(List<Integer> line, int k, int least, int most) throws Fault {
            int n = Integer.parseInt(words.get(line.get(k)));
            if (n < least || n > most) {
                throw new Fault(2, places.get(line.get(k)));
            }
            return n;
        }

        House house() throws Fault {
            House h = new House();
            Set<Integer> steps = new HashSet<>();
            Set<Integer> people = new HashSet<>();
            for (List<Integer> line : lines(0)) {
                houseLine(h, line, steps, people);
            }
            for (int s : steps) {
                if (s >= h.steps) {
                    throw new Fault(4, text.length());
                }
            }
            for (int p : people) {
                if (p >= h.people.size()) {
                    throw new Fault(4, text.length());
                }
            }
            return h;
        }

        void houseLine(House h, List<Integer> line, Set<Integer> steps, Set<Integer> people) throws Fault {
            String w = words.get(line.get(0));
            int at = places.get(line.get(0));
            if (w.equals("steps")) {
                h.steps = number(line, 1, 2, 24);
            } else if (w.equals("keep")) {
                h.keep = number(line, 1, 0, 99);
            } else if (w.equals("carpet")) {
                int s = number(line, 1, 0, 23);
                h.carpet[s] = number(line, 2, 0, 9);
                steps.add(s);
            } else if (w.equals("flat")) {
                if (h.flats.size() == 6) {
                    throw new Fault(3, at);
                }
                Flat f = new Flat();
                f.step = number(line, 1, 0, 23);
                f.ear = number(line, 2, 0, 9);
                steps.add(f.step);
                h.flats.add(f);
            } else if (w.equals("person")) {
                if (h.people.size() == 6) {
                    throw new Fault(3, at);
                }
                Person p = new Person();
                p.shoe = number(line, 1, 0, 9);
                p.weight = number(line, 2, 1, 9);
                p.rise = number(line, 3, 1, 4);
                h.people.add(p);
            } else if (w.equals("walk")) {
                int who = number(line, 1, 0, 5);
                people.add(who);
                Walk k = new Walk();
                k.minute = number(line, 2, 0, 60);
                k.step = number(line, 3, 0, 23);
                steps.add(k.step);
                for (int i = 4; i < line.size(); i++) {
                    int goal = number(line, i, 0, 23);
                    if (i == 12) {
                        throw new Fault(3, places.get(line.get(i)));
                    }
                    steps.add(goal);
                    k.goals.add(goal);
                }
                h.walks[who] = k;
            } else {
                if (h.changes.size() == 8) {
                    throw new Fault(3, at);
                }
                int who = number(line, 1, 0, 5);
                people.add(who);
                h.changes.add(new int[] {who, number(line, 2, 0, 99), number(line, 3, 0, 9)});
            }
        }

        List<Sound> reading() throws Fault {
            List<Sound> all = new ArrayList<>();
            for (List<Integer> line : lines(1)) {
                if (all.size() == 10) {
                    throw new Fault(3, places.get(line.get(0)));
                }
                Sound s = new Sound();
                s.flat = number(line, 1, 0, 5);
                s.minute = number(line, 2, 0, 99);
                s.shoe = number(line, 3, 0, 9);
                s.echo = words.get(line.get(4)).equals("-") ? NONE : number(line, 4, 0, 9);
                all.add(s);
            }
            return all;
        }
    }

    static final class Row {
        int cost;
        List<Integer> steps = new ArrayList<>();

        boolean betterThan(Row r) {
            if (cost != r.cost) {
                return cost < r.cost;
            }
            if (steps.size() != r.steps.size()) {
                return steps.size() < r.steps.size();
            }
            for (int i = 0; i < steps.size(); i++) {
                if (!steps.get(i).equals(r.steps.get(i))) {
                    return steps.get(i) < r.steps.get(i);
                }
            }
            return false;
        }
    }

    static final class Model {
        State now = new State();
        State[] images = new State[3];

        House h(int n) {
            return n >= 0 && n < now.houses.size() ? now.houses.get(n) : null;
        }

        List<Sound> r(int n) {
            return n >= 0 && n < now.readings.size() ? now.readings.get(n) : null;
        }

        static boolean in(int k, int n) {
            return k >= 0 && k < n;
        }

        int feed(int... five) {
            if (now.tape.length + 20 > 600) {
                return NONE;
            }
            int n = now.tape.length;
            now.tape = Arrays.copyOf(now.tape, n + 20);
            for (int i = 0; i < 20; i++) {
                now.tape[n + i] = (byte) (five[i / 4] >>> (24 - 8 * (i % 4)));
            }
            return n + 20;
        }

        int end(int n) {
            if (n < 0 || n > now.tape.length) {
                return NONE;
            }
            now.tape = Arrays.copyOf(now.tape, n);
            return n;
        }

        int text(int sort, int at) {
            now.fault = 0;
            now.place = NONE;
            Parser p = new Parser(now.tape);
            now.tape = new byte[0];
            int there = sort == 0 ? now.houses.size() : now.readings.size();
            if (sort != 0 && sort != 1 || at == NONE && there == 2 || at != NONE && !in(at, there)) {
                return -2;
            }
            int number = at == NONE ? there : at;
            try {
                if (sort == 0) {
                    House h = p.house();
                    if (at == NONE) {
                        now.houses.add(h);
                    } else {
                        now.houses.set(at, h);
                    }
                } else {
                    List<Sound> r = p.reading();
                    if (at == NONE) {
                        now.readings.add(r);
                    } else {
                        now.readings.set(at, r);
                    }
                }
                return number;
            } catch (Fault f) {
                now.fault = f.sort;
                now.place = f.place;
                return NONE;
            }
        }

        int fault(int what) {
            return what == 0 ? now.fault : what == 1 ? now.place : NONE;
        }

        int house(int n, int what) {
            House h = h(n);
            if (h == null) {
                return NONE;
            }
            if (what == 0) return h.steps;
            if (what == 1) return h.keep;
            if (what == 2) return h.flats.size();
            if (what == 3) return h.people.size();
            if (what == 4) return h.changes.size();
            for (int k = 0; k < h.flats.size(); k++) {
                if (what == 10 + k) return h.flats.get(k).step;
                if (what == 20 + k) return h.flats.get(k).ear;
            }
            for (int k = 0; k < h.changes.size(); k++) {
                if (what == 30 + k) return h.changes.get(k)[0];
                if (what == 40 + k) return h.changes.get(k)[1];
                if (what == 50 + k) return h.changes.get(k)[2];
            }
            for (int s = 0; s < h.steps; s++) {
                if (what == 100 + s) return h.carpet[s];
            }
            return NONE;
        }

        int person(int n, int p, int what) {
            House h = h(n);
            if (h == null || !in(p, h.people.size())) {
                return -2;
            }
            Walk w = h.walks[p];
            if (what == 0) return h.people.get(p).shoe;
            if (what == 1) return h.people.get(p).weight;
            if (what == 2) return h.people.get(p).rise;
            if (what == 3) return w == null ? NONE : w.minute;
            if (what == 4) return w == null ? NONE : w.step;
            if (what == 5) return w == null ? 0 : w.goals.size();
            if (what == 6) return h.lastMinute(h.treads(), p);
            if (what == 7) return h.way(p)[99][0];
            if (w != null && what >= 10 && what < 10 + w.goals.size()) return w.goals.get(what - 10);
            if (what >= 100 && what <= 199) return h.shoe(p, what - 100);
            return -2;
        }

        int tread(int n, int k, int what) {
            House h = h(n);
            if (h == null) {
                return -2;
            }
            List<Tread> all = h.treads();
            if (k == NONE && what == 0) {
                return all.size();
            }
            if (!in(k, all.size())) {
                return -2;
            }
            Tread t = all.get(k);
            if (what == 0) return t.who;
            if (what == 1) return t.step;
            if (what == 2) return t.minute;
            if (what == 3) return t.shoe;
            if (what == 4) return t.loud;
            if (what == 5) return t.echo == null ? NONE : all.indexOf(t.echo);
            if (what == 6) return h.heard(t);
            if (what == 7) return h.echoHeard(t);
            return -2;
        }

        int where(int n, int p, int t) {
            House h = h(n);
            if (h == null || !in(p, h.people.size()) || !in(t, 100)) {
                return -2;
            }
            return h.way(p)[t][0];
        }

        int note(int n, int f, int k, int what) {
            House h = h(n);
            if (h == null || !in(f, h.flats.size())) {
                return -2;
            }
            List<Tread> all = h.treads();
            List<Tread> notes = new ArrayList<>();
            int ghosts = 0;
            for (Tread t : all) {
                if ((h.noted(t) >> f & 1) == 1) {
                    notes.add(t);
                    ghosts += ghost(h, all, t, f);
                }
            }
            if (k == NONE) {
                return what == 0 ? notes.size() : what == 1 ? ghosts : -2;
            }
            if (!in(k, notes.size())) {
                return -2;
            }
            Tread t = notes.get(k);
            if (what == 0) return all.indexOf(t);
            if (what == 1) return (h.heard(t) >> f & 1) == 1 ? t.shoe : NONE;
            if (what == 2) return (h.echoHeard(t) >> f & 1) == 1 ? t.echo.shoe : NONE;
            if (what == 3) return ghost(h, all, t, f);
            return -2;
        }

        static int ghost(House h, List<Tread> all, Tread t, int f) {
            return (h.echoHeard(t) >> f & 1) == 1 && h.lastMinute(all, t.echo.who) < t.minute ? 1 : 0;
        }

        int ends(int n, int what) {
            House h = h(n);
            if (h == null || !in(what, 3)) {
                return NONE;
            }
            int bits = 0;
            for (int p = 0; p < h.people.size(); p++) {
                boolean is;
                if (what == 2) {
                    is = true;
                    for (Tread t : h.treads()) {
                        is &= t.who != p || h.heard(t) == 0;
                    }
                } else {
                    int end = h.way(p)[99][0];
                    is = h.walks[p] != null && (what == 0 ? end > h.walks[p].step : end < h.walks[p].step);
                }
                bits |= is ? 1 << p : 0;
            }
            return bits;
        }

        /** The best row, or null; flats NONE: of a thief. */
        Row row(int n, int p, int from, int to, int minute, int flats) {
            House h = h(n);
            if (h == null || !in(p, h.people.size()) || !in(from, h.steps) || !in(to, h.steps) || !in(minute, 100)) {
                return null;
            }
            List<Tread> others = h.treads();
            others.removeIf(t -> t.who == p);
            Row[] on = new Row[h.steps];
            on[from] = new Row();
            Row best = from == to ? on[from] : null;
            for (int i = 1; i <= 60; i++) {
                Row[] next = new Row[h.steps];
                for (int s = 0; s < h.steps; s++) {
                    for (int r = 0; r < h.steps; r++) {
                        if (on[s] == null || Math.abs(s - r) > h.people.get(p).rise) {
                            continue;
                        }
                        int price = s == r ? 0 : price(h, others, p, r, minute + i, flats);
                        if (price < 0) {
                            continue;
                        }
                        Row row = new Row();
                        row.cost = on[s].cost + price;
                        row.steps.addAll(on[s].steps);
                        row.steps.add(r);
                        if (next[r] == null || row.betterThan(next[r])) {
                            next[r] = row;
                        }
                    }
                }
                on = next;
                if (on[to] != null && (best == null || on[to].betterThan(best))) {
                    best = on[to];
                }
            }
            return best;
        }

        static int price(House h, List<Tread> others, int p, int s, int t, int flats) {
            List<Tread> ahead = new ArrayList<>();
            boolean covered = false;
            for (Tread o : others) {
                if (o.minute < t || o.minute == t && o.who < p) {
                    ahead.add(o);
                }
                covered |= o.minute == t && o.step == s;
            }
            Tread echo = h.echoFor(ahead, s, t);
            int heard = h.bits(s, h.loud(p, s, h.shoe(p, t))) | (echo == null ? 0 : h.bits(s, echo.loud / 2));
            if (flats == NONE) {
                return heard != 0 && !covered ? 1 : 0;
            }
            return (heard & flats) != 0 ? -1 : 0;
        }

        int home(int n, int p, int from, int to, int minute, int flats, int what) {
            House h = h(n);
            if (h == null || flats < 0 || flats >= 1 << h.flats.size()) {
                return NONE;
            }
            Row row = row(n, p, from, to, minute, flats);
            if (row == null) {
                return NONE;
            }
            return what == 0 ? row.steps.size() : in(what - 10, row.steps.size()) ? row.steps.get(what - 10) : NONE;
        }

        int thief(int n, int p, int from, int to, int minute, int what) {
            Row row = row(n, p, from, to, minute, NONE);
            if (row == null) {
                return NONE;
            }
            return what == 0 ? row.cost : what == 1 ? row.steps.size()
                : in(what - 10, row.steps.size()) ? row.steps.get(what - 10) : NONE;
        }

        int apart(int n, int what) {
            House h = h(n);
            if (h == null) {
                return NONE;
            }
            int people = h.people.size();
            boolean[][] mixed = new boolean[people][people];
            for (Tread a : h.treads()) {
                for (Tread b : h.treads()) {
                    mixed[a.who][b.who] |= a.who != b.who && (h.heard(a) & h.heard(b)) != 0;
                }
            }
            for (int shoes = people == 0 ? 0 : 1; shoes <= people; shoes++) {
                int ways = (int) Math.pow(shoes, people);
                for (int way = 0; way < ways || people == 0; way++) {
                    int[] worn = new int[people];
                    int rest = way;
                    for (int p = people - 1; p >= 0; p--) {
                        worn[p] = rest % shoes;
                        rest /= shoes;
                    }
                    boolean fits = true;
                    for (int a = 0; a < people; a++) {
                        for (int b = 0; b < people; b++) {
                            fits &= !mixed[a][b] || worn[a] != worn[b];
                        }
                    }
                    if (fits) {
                        return what == 0 ? shoes : in(what - 10, people) ? worn[what - 10] : NONE;
                    }
                }
            }
            return NONE;
        }

        static int saved(House h, int s, int thicker) {
            int before = h.allNotes(h.treads());
            int was = h.carpet[s];
            h.carpet[s] = Math.min(9, was + thicker);
            int after = h.allNotes(h.treads());
            h.carpet[s] = was;
            return before - after;
        }

        int worth(int n, int s, int thicker) {
            House h = h(n);
            if (h == null || thicker < 1 || thicker > 9 || s != NONE && !in(s, h.steps)) {
                return -2;
            }
            if (s != NONE) {
                return saved(h, s, thicker);
            }
            int best = 0;
            for (int i = 1; i < h.steps; i++) {
                best = saved(h, i, thicker) > saved(h, best, thicker) ? i : best;
            }
            return best;
        }

        int sound(int n, int k, int what) {
            List<Sound> r = r(n);
            if (r == null) {
                return -2;
            }
            if (k == NONE && what == 0) {
                return r.size();
            }
            if (!in(k, r.size())) {
                return -2;
            }
            Sound s = r.get(k);
            return what == 0 ? s.flat : what == 1 ? s.minute : what == 2 ? s.shoe : what == 3 ? s.echo : -2;
        }

        static boolean made(House h, Sound x, int p, int s) {
            if (h.shoe(p, x.minute) != x.shoe || x.flat >= h.flats.size()
                || !h.hears(x.flat, s, h.loud(p, s, x.shoe))) {
                return false;
            }
            boolean fits = x.echo == NONE;
            for (int q = 0; q < h.people.size(); q++) {
                fits |= h.people.get(q).shoe == x.echo && h.hears(x.flat, s, h.loud(q, s, x.echo) / 2);
            }
            return fits;
        }

        static int makersOf(House h, Sound x) {
            int bits = 0;
            for (int p = 0; p < h.people.size(); p++) {
                for (int s = 0; s < h.steps; s++) {
                    bits |= made(h, x, p, s) ? 1 << p : 0;
                }
            }
            return bits;
        }

        int makers(int n, int m, int k) {
            House h = h(n);
            List<Sound> r = r(m);
            if (h == null || r == null || k != NONE && !in(k, r.size())) {
                return -2;
            }
            if (k != NONE) {
                return makersOf(h, r.get(k));
            }
            int bits = 0;
            for (int i = 0; i < r.size(); i++) {
                bits |= makersOf(h, r.get(i)) == 0 ? 1 << i : 0;
            }
            return bits;
        }

        static List<Sound> his(House h, List<Sound> r, int p) {
            List<Sound> his = new ArrayList<>();
            for (int t = 0; t < 100; t++) {
                for (Sound x : r) {
                    if (x.minute == t && h.shoe(p, t) == x.shoe) {
                        his.add(x);
                    }
                }
            }
            return his;
        }

        /** Ways from the i-th of his sounds on, the one ahead having been on a step; forced: a sound's only step. */
        static long ways(House h, List<Sound> his, int p, Sound forced, int onStep) {
            long[] ways = new long[h.steps];
            for (int i = 0; i < his.size(); i++) {
                long[] next = new long[h.steps];
                Sound x = his.get(i);
                for (int s = 0; s < h.steps; s++) {
                    if (!made(h, x, p, s) || x == forced && s != onStep) {
                        continue;
                    }
                    if (i == 0) {
                        next[s] = 1;
                        continue;
                    }
                    int far = h.people.get(p).rise * (x.minute - his.get(i - 1).minute);
                    for (int q = 0; q < h.steps; q++) {
                        next[s] += Math.abs(q - s) <= far ? ways[q] : 0;
                    }
                }
                ways = next;
            }
            return his.isEmpty() ? 1 : Arrays.stream(ways).sum();
        }

        long track(int n, int m, int p) {
            House h = h(n);
            List<Sound> r = r(m);
            if (h == null || r == null || !in(p, h.people.size())) {
                return NONE;
            }
            return ways(h, his(h, r, p), p, null, 0);
        }

        int spots(int n, int m, int p, int k) {
            House h = h(n);
            List<Sound> r = r(m);
            if (h == null || r == null || !in(p, h.people.size()) || k != NONE && !in(k, r.size())) {
                return -2;
            }
            List<Sound> his = his(h, r, p);
            int sure = 0;
            for (int i = 0; i < r.size(); i++) {
                int bits = 0;
                for (int s = 0; s < h.steps && his.contains(r.get(i)); s++) {
                    bits |= ways(h, his, p, r.get(i), s) > 0 ? 1 << s : 0;
                }
                if (i == k) {
                    return bits;
                }
                sure += Integer.bitCount(bits) == 1 ? 1 : 0;
            }
            return sure;
        }

        int drawn(int n, int seed, int k, int what) {
            House h = h(n);
            if (h == null || k < 0 || k > 100) {
                return NONE;
            }
            long x = seed & 0xffffffffL;
            int[] on = new int[h.people.size()];
            List<Tread> all = new ArrayList<>();
            for (int t = 0; t < 60; t++) {
                for (int p = 0; p < on.length; p++) {
                    x = x * 1103515245L + 12345L & 0xffffffffL;
                    if ((x >> 16) % 100 >= k) {
                        continue;
                    }
                    x = x * 1103515245L + 12345L & 0xffffffffL;
                    int by = ((x >> 16) % 2 == 0 ? 1 : -1) * h.people.get(p).rise;
                    int to = Math.max(0, Math.min(h.steps - 1, on[p] + by));
                    if (to != on[p]) {
                        on[p] = to;
                        h.addTread(all, p, to, t);
                    }
                }
            }
            if (what == 0) return all.size();
            if (what == 1) return h.allNotes(all);
            if (in(what - 10, on.length)) return on[what - 10];
            if (in(what - 20, h.flats.size())) {
                int notes = 0;
                for (Tread t : all) {
                    notes += h.noted(t) >> (what - 20) & 1;
                }
                return notes;
            }
            return NONE;
        }

        int ring(int n, int k) {
            House h = h(n);
            if (h == null) {
                return NONE;
            }
            List<Tread> all = h.treads();
            int most = NONE;
            for (int i = 0; i < all.size(); i++) {
                int ring = 0;
                for (Tread t = all.get(i); t != null; t = t.echo) {
                    ring++;
                }
                if (i == k) {
                    return ring;
                }
                most = Math.max(most, ring);
            }
            return k == NONE ? most : NONE;
        }

        int meet(int n, int a, int b, boolean pass) {
            House h = h(n);
            if (h == null || a == b || !in(a, h.people.size()) || !in(b, h.people.size())) {
                return NONE;
            }
            int[][] x = h.way(a);
            int[][] y = h.way(b);
            int passes = 0;
            for (int t = 0; t < 100; t++) {
                if (!pass && x[t][0] != NONE && x[t][0] == y[t][0]) {
                    return t;
                }
                if (t > 0 && x[t - 1][0] != NONE && y[t - 1][0] != NONE) {
                    boolean up = x[t][0] > y[t][0] && !(x[t - 1][0] > y[t - 1][0]);
                    boolean down = y[t][0] > x[t][0] && !(y[t - 1][0] > x[t - 1][0]);
                    passes += up || down ? 1 : 0;
                }
            }
            return pass ? passes : NONE;
        }

        int look(int n, int what) {
            House h = h(n);
            if (h == null) {
                return -2;
            }
            List<Tread> all = h.treads();
            if (what == 0) return hollow(h, all);
            if (what == 1) return busy(h, all);
            if (what == 2) return copies(h);
            if (in(what - 10, h.flats.size())) {
                Set<Integer> shoes = new HashSet<>();
                for (Tread t : all) {
                    if ((h.heard(t) >> (what - 10) & 1) == 1) {
                        shoes.add(t.shoe);
                    }
                }
                return shoes.size();
            }
            if (in(what - 20, h.flats.size())) return move(h, what - 20);
            if (in(what - 30, h.people.size())) return hire(h, all, what - 30);
            if (in(what - 40, h.people.size())) return late(h, what - 40);
            return -2;
        }

        static int hollow(House h, List<Tread> all) {
            boolean[] noted = new boolean[100];
            for (Tread t : all) {
                noted[t.minute] |= h.noted(t) != 0;
            }
            int best = 0;
            int row = 0;
            for (boolean b : noted) {
                row = b ? 0 : row + 1;
                best = Math.max(best, row);
            }
            return best;
        }

        static int busy(House h, List<Tread> all) {
            int best = NONE;
            int most = 0;
            for (int s = 0; s < h.steps; s++) {
                int n = 0;
                for (Tread t : all) {
                    n += t.step == s ? 1 : 0;
                }
                if (n > most) {
                    most = n;
                    best = s;
                }
            }
            return best;
        }

        static int copies(House h) {
            int n = 0;
            for (int a = 0; a < h.people.size(); a++) {
                for (int b = 0; b < a; b++) {
                    boolean same = h.people.get(a).weight == h.people.get(b).weight;
                    for (int t = 0; t < 100; t++) {
                        same &= h.shoe(a, t) == h.shoe(b, t);
                    }
                    n += same ? 1 : 0;
                }
            }
            return n;
        }

        static int move(House h, int f) {
            int was = h.flats.get(f).step;
            int best = NONE;
            int fewest = Integer.MAX_VALUE;
            for (int s = 0; s < h.steps; s++) {
                h.flats.get(f).step = s;
                int notes = 0;
                for (Tread t : h.treads()) {
                    notes += h.noted(t) >> f & 1;
                }
                if (notes < fewest) {
                    fewest = notes;
                    best = s;
                }
            }
            h.flats.get(f).step = was;
            return best;
        }

        static int hire(House h, List<Tread> all, int p) {
            for (int shoe = 9; shoe >= 0; shoe--) {
                boolean heard = false;
                for (Tread t : all) {
                    heard |= t.who == p && h.bits(t.step, h.loud(p, t.step, shoe)) != 0;
                }
                if (!heard) {
                    return shoe;
                }
            }
            return NONE;
        }

        static int late(House h, int p) {
            if (h.walks[p] == null) {
                return NONE;
            }
            int was = h.walks[p].minute;
            int best = NONE;
            int fewest = Integer.MAX_VALUE;
            for (int m = 0; m <= 60; m++) {
                h.walks[p].minute = m;
                int notes = 0;
                for (Tread t : h.treads()) {
                    notes += t.who == p ? Integer.bitCount(h.noted(t)) : 0;
                }
                if (notes < fewest) {
                    fewest = notes;
                    best = m;
                }
            }
            h.walks[p].minute = was;
            return best;
        }

        int count(int sort) {
            return sort == 0 ? now.houses.size() : sort == 1 ? now.readings.size() : -2;
        }

        boolean image(int k) {
            if (!in(k, 3)) {
                return false;
            }
            images[k] = now.copy();
            return true;
        }

        boolean again(int k) {
            if (!in(k, 3) || images[k] == null) {
                return false;
            }
            now = images[k].copy();
            return true;
        }
    }

    // ---------------------------------------------------------------- one class against the other

    static final class Pair {
        final EchoStair x = new EchoStair();
        final Model m = new Model();
        final Random random;
        final StringBuilder log = new StringBuilder();

        Pair(Random random) {
            this.random = random;
        }

        void same(String call, long got, long want) {
            checks++;
            if (got != want) {
                wrong++;
                if (wrong <= 20) {
                    System.out.println(log + call + " answered " + got + ", the model says " + want);
                }
            }
        }

        int pick(int... all) {
            return all[random.nextInt(all.length)];
        }

        /** Mostly a number from least to most, now and then one about the edges, seldom anything. */
        int any(int least, int most) {
            int dice = random.nextInt(40);
            if (dice == 0) {
                return pick(Integer.MIN_VALUE, Integer.MAX_VALUE, random.nextInt(), -2, -3, most + 1, most + 2, most + 10);
            }
            return dice == 1 ? pick(least - 1, most + 1, NONE) : least + random.nextInt(most - least + 1);
        }

        void give(String text) {
            byte[] bytes = new byte[(text.length() + 19) / 20 * 20];
            for (int i = 0; i < text.length(); i++) {
                bytes[i] = (byte) text.charAt(i);
            }
            for (int i = 0; i < bytes.length; i += 20) {
                int[] five = new int[5];
                for (int j = 0; j < 20; j++) {
                    five[j / 4] = five[j / 4] << 8 | bytes[i + j] & 255;
                }
                same("feed", x.feed(five[0], five[1], five[2], five[3], five[4]), m.feed(five));
            }
            same("end", x.end(text.length()), m.end(text.length()));
        }

        void text(int sort, String text) {
            same("end", x.end(0), m.end(0));
            give(text);
            int at = any(-1, 1);
            log.append('[').append(sort).append(' ').append(at).append(": ").append(text).append("]\n");
            same("text", x.text(sort, at), m.text(sort, at));
            same("fault(0)", x.fault(0), m.fault(0));
            same("fault(1)", x.fault(1), m.fault(1));
            same("end(1) behind text", x.end(1), m.end(1));
        }

        void randomCalls(int n) {
            for (int i = 0; i < n; i++) {
                oneCall();
            }
        }

        void oneCall() {
            int h = random.nextInt(30) == 0 ? any(-1, 2) : random.nextInt(2);
            int p = any(0, 5);
            int s = any(0, 12);
            int t = any(0, 99);
            int f = any(0, 5);
            int k = random.nextInt(8) == 0 ? NONE : any(0, 40);
            int w = any(0, 8);
            String args = " h" + h + " p" + p + " s" + s + " t" + t + " f" + f + " k" + k + " w" + w;
            switch (random.nextInt(24)) {
                case 0: {
                    int what = any(0, 125);
                    same("house what" + what + args, x.house(h, what), m.house(h, what));
                    break;
                }
                case 1: {
                    int what = pick(w, 10 + w, any(100, 199));
                    same("person what" + what + args, x.person(h, p, what), m.person(h, p, what));
                    break;
                }
                case 2: case 3: same("tread" + args, x.tread(h, k, w), m.tread(h, k, w)); break;
                case 4: same("where" + args, x.where(h, p, t), m.where(h, p, t)); break;
                case 5: case 6: {
                    int what = any(0, 3);
                    same("note what" + what + args, x.note(h, f, k, what), m.note(h, f, k, what));
                    break;
                }
                case 7: same("ends" + args, x.ends(h, w % 4), m.ends(h, w % 4)); break;
                case 8: homeCalls(h, p); break;
                case 9: homeCall(h, p, step(h), step(h), early()); break;
                case 10: {
                    int what = pick(0, any(10, 15), w);
                    same("apart what" + what + args, x.apart(h, what), m.apart(h, what));
                    break;
                }
                case 11: {
                    int step = pick(NONE, s);
                    int thick = any(1, 9);
                    same("worth thick" + thick + " step" + step + args, x.worth(h, step, thick), m.worth(h, step, thick));
                    break;
                }
                case 12: {
                    int what = any(0, 3);
                    int n = any(-1, 9);
                    same("sound n" + n + args, x.sound(h, n, what), m.sound(h, n, what));
                    break;
                }
                case 13: case 14: {
                    int r = any(0, 1);
                    int n = any(-1, 9);
                    same("makers r" + r + " n" + n + args, x.makers(h, r, n), m.makers(h, r, n));
                    break;
                }
                case 15: {
                    int r = any(0, 1);
                    same("track r" + r + args, x.track(h, r, p), m.track(h, r, p));
                    break;
                }
                case 16: case 17: {
                    int r = any(0, 1);
                    int n = any(-1, 9);
                    same("spots r" + r + " n" + n + args, x.spots(h, r, p, n), m.spots(h, r, p, n));
                    break;
                }
                case 18: {
                    int seed = random.nextInt();
                    int percent = any(0, 100);
                    int what = pick(0, 1, w, 10 + f, 20 + f);
                    same("drawn seed" + seed + " k" + percent + " what" + what + args,
                        x.drawn(h, seed, percent, what), m.drawn(h, seed, percent, what));
                    break;
                }
                case 19: same("ring" + args, x.ring(h, k), m.ring(h, k)); break;
                case 20: {
                    int q = any(0, 5);
                    boolean pass = random.nextBoolean();
                    same("meet q" + q + pass + args, x.meet(h, p, q, pass), m.meet(h, p, q, pass));
                    break;
                }
                case 21: case 22: {
                    int what = pick(any(0, 2), 10 + f, 20 + f, 30 + p, 40 + p);
                    same("look what" + what + args, x.look(h, what), m.look(h, what));
                    break;
                }
                default: imageCall(); break;
            }
        }

        void imageCall() {
            int k = any(0, 2);
            switch (random.nextInt(8)) {
                case 0: same("again", x.again(k) ? 1 : 0, m.again(k) ? 1 : 0); break;
                case 1: case 2: same("image", x.image(k) ? 1 : 0, m.image(k) ? 1 : 0); break;
                case 3: same("count", x.count(k), m.count(k)); break;
                case 4: same("fault", x.fault(k), m.fault(k)); break;
                case 5: {
                    int n = any(0, 40);
                    same("end", x.end(n), m.end(n));
                    break;
                }
                default: {
                    int[] five = {random.nextInt(), random.nextInt(), 0, -1, 1 << 31};
                    same("feed", x.feed(five[0], five[1], five[2], five[3], five[4]), m.feed(five));
                    break;
                }
            }
        }

        /** A step that is there, mostly. */
        int step(int h) {
            House house = m.h(h);
            return house == null || random.nextInt(20) == 0 ? any(0, 24) : random.nextInt(house.steps);
        }

        int early() {
            return random.nextInt(3) == 0 ? any(0, 99) : random.nextInt(20);
        }

        /** Several errands that differ in one thing, because the class remembers the last one. */
        void homeCalls(int h, int p) {
            int from = step(h);
            int to = step(h);
            int t = early();
            homeCall(h, p, from, to, t);
            homeCall(h, p, step(h), to, t);
            homeCall(h, p, from, step(h), t);
            thiefCall(h, p, from, to, t);
            thiefCall(h, p, step(h), to, t);
            thiefCall(h, p, from, step(h), t);
            thiefCall(h, p, from, to, early());
            thiefCall(h, any(0, 5), from, to, t);
            thiefCall(1 - h, p, from, to, t);
        }

        void homeCall(int h, int p, int s, int to, int t) {
            House house = m.h(h);
            int all = house == null ? 1 : (1 << house.flats.size()) - 1;
            int flats = random.nextInt(6) == 0 ? any(0, 63) : random.nextInt() & all & (random.nextBoolean() ? random.nextInt() : -1);
            String call = "home h" + h + " p" + p + " from" + s + " to" + to + " t" + t + " flats" + flats;
            int minutes = x.home(h, p, s, to, t, flats, 0);
            same(call, minutes, m.home(h, p, s, to, t, flats, 0));
            int what = random.nextInt(5) == 0 ? any(0, 80) : 10 + random.nextInt(Math.max(1, minutes + 1));
            same(call + " what" + what, x.home(h, p, s, to, t, flats, what), m.home(h, p, s, to, t, flats, what));
        }

        void thiefCall(int h, int p, int s, int to, int t) {
            String call = "thief h" + h + " p" + p + " from" + s + " to" + to + " t" + t;
            same(call, x.thief(h, p, s, to, t, 0), m.thief(h, p, s, to, t, 0));
            int minutes = x.thief(h, p, s, to, t, 1);
            same(call, minutes, m.thief(h, p, s, to, t, 1));
            int what = random.nextInt(5) == 0 ? any(0, 80) : 10 + random.nextInt(Math.max(1, minutes + 1));
            same(call + " what" + what, x.thief(h, p, s, to, t, what), m.thief(h, p, s, to, t, what));
        }

        String houseText() {
            StringBuilder b = new StringBuilder();
            int steps = pick(2, 3, 5, 8, 12, 12, 24);
            b.append("steps ").append(steps).append(';');
            b.append("keep ").append(pick(0, 1, 2, 5, 20, 99)).append(';');
            boolean soft = random.nextBoolean();
            for (int i = random.nextInt(6); i > 0; i--) {
                b.append("carpet ").append(random.nextInt(steps)).append(' ').append(random.nextInt(10)).append(";\n");
            }
            for (int i = random.nextInt(7); i > 0; i--) {
                b.append("flat ").append(random.nextInt(steps)).append(' ').append(random.nextInt(soft ? 2 : 10)).append(';');
            }
            int people = random.nextInt(7);
            for (int i = people; i > 0; i--) {
                b.append("person ").append(random.nextInt(soft ? 3 : 10)).append(' ').append(1 + random.nextInt(soft ? 2 : 9));
                b.append(' ').append(1 + random.nextInt(4)).append(';');
            }
            for (int i = people == 0 ? 0 : random.nextInt(people + 3); i > 0; i--) {
                b.append("walk ").append(random.nextInt(people)).append(' ').append(random.nextInt(random.nextBoolean() ? 61 : 8));
                b.append(' ').append(random.nextInt(steps));
                for (int g = random.nextInt(8); g >= 0; g--) {
                    b.append(' ').append(random.nextInt(steps));
                }
                b.append(";");
            }
            for (int i = people == 0 ? 0 : random.nextInt(9); i > 0; i--) {
                b.append("change ").append(random.nextInt(people)).append(' ').append(random.nextInt(random.nextBoolean() ? 100 : 8));
                b.append(' ').append(random.nextInt(soft ? 3 : 10)).append(';');
            }
            return b.length() > 600 ? houseText() : b.toString();
        }

        /** A stair on which one's own treads are seldom loud and the echoes of others are, so that order counts. */
        String muffledText() {
            StringBuilder b = new StringBuilder();
            int steps = pick(2, 3, 4, 6);
            b.append("steps ").append(steps).append(";keep ").append(pick(0, 1, 2, 3, 6)).append(';');
            for (int s = 0; s < steps; s++) {
                b.append("carpet ").append(s).append(' ').append(pick(1, 2, 3)).append(';');
            }
            for (int i = 1 + random.nextInt(4); i > 0; i--) {
                b.append("flat ").append(random.nextInt(steps)).append(" 0;");
            }
            int people = 2 + random.nextInt(4);
            for (int p = 0; p < people; p++) {
                b.append("person ").append(pick(0, 0, 1, 2)).append(' ').append(pick(1, 1, 2, 5, 6)).append(' ').append(pick(1, 1, 2)).append(';');
            }
            for (int p = 0; p < people; p++) {
                b.append("walk ").append(p).append(' ').append(random.nextInt(12)).append(' ').append(random.nextInt(steps));
                for (int g = random.nextInt(8); g >= 0; g--) {
                    b.append(' ').append(random.nextInt(steps));
                }
                b.append(";");
            }
            for (int i = random.nextInt(5); i > 0; i--) {
                b.append("change ").append(random.nextInt(people)).append(' ').append(random.nextInt(20));
                b.append(' ').append(pick(0, 1, 2)).append(';');
            }
            return b.length() > 600 ? muffledText() : b.toString();
        }

        /** Sounds by which one of a house's people comes along now and then. */
        String fittingText(House h) {
            StringBuilder b = new StringBuilder();
            int minute = 0;
            for (int i = 1 + random.nextInt(10); i > 0; i--) {
                int p = random.nextInt(h.people.size());
                minute = Math.min(99, minute + pick(0, 1, 1, 2, 3));
                b.append("heard ").append(random.nextInt(h.flats.size())).append(' ').append(minute).append(' ');
                b.append(h.shoe(p, minute)).append(' ');
                b.append(random.nextInt(3) > 0 ? "-" : String.valueOf(h.people.get(random.nextInt(h.people.size())).shoe));
                b.append(";");
                minute = random.nextInt(8) == 0 ? random.nextInt(100) : minute;
            }
            return b.toString();
        }

        String readingText() {
            House h = m.h(random.nextInt(2));
            if (h != null && !h.people.isEmpty() && !h.flats.isEmpty() && random.nextInt(4) > 0) {
                return fittingText(h);
            }
            StringBuilder b = new StringBuilder();
            boolean close = random.nextBoolean();
            for (int i = random.nextInt(11); i > 0; i--) {
                b.append("heard ").append(random.nextInt(6)).append(' ').append(random.nextInt(close ? 12 : 100)).append(' ');
                b.append(random.nextInt(close ? 3 : 10)).append(' ');
                b.append(random.nextInt(3) > 0 ? "-" : String.valueOf(random.nextInt(close ? 3 : 10))).append(" ;");
            }
            return b.toString();
        }

        String spoiled(String text) {
            StringBuilder b = new StringBuilder(text);
            String signs = "0123456789 ;-\naez!~";
            for (int i = 1 + random.nextInt(3); i > 0; i--) {
                int at = random.nextInt(b.length() + 1);
                switch (random.nextInt(4)) {
                    case 0: b.insert(at, signs.charAt(random.nextInt(signs.length()))); break;
                    case 1: if (at < b.length()) b.deleteCharAt(at); break;
                    case 2: if (at < b.length()) b.setCharAt(at, signs.charAt(random.nextInt(signs.length()))); break;
                    default: {
                        String[] lines = {"flat 1 0;", "person 1 1 1;", "walk 0 1 1 1 1 1 1 1 1 1 1 24;", "change 0 0 0;",
                            "heard 0 0 0 -;", "steps 3;", "steps 25;", "keep 0 ;", "walk 5 0 0 0 ;", "carpet 23 9;"};
                        int to = b.indexOf(";", at) + 1;
                        b.insert(to, lines[random.nextInt(lines.length)]);
                        break;
                    }
                }
            }
            if (random.nextInt(6) == 0) {
                b.setLength(random.nextInt(b.length() + 1));
            }
            return b.length() > 600 ? b.substring(0, 600) : b.toString();
        }
    }

    static void evenings(int seeds, int rounds, int calls) {
        for (int seed = 0; seed < seeds; seed++) {
            Pair pair = new Pair(new Random(seed));
            for (int i = 0; i < rounds; i++) {
                pair.text(0, pair.random.nextBoolean() ? pair.houseText() : pair.muffledText());
                pair.text(1, pair.readingText());
                pair.randomCalls(calls);
            }
        }
    }

    static void texts(int seeds, int rounds) {
        for (int seed = 0; seed < seeds; seed++) {
            Pair pair = new Pair(new Random(1000000 + seed));
            for (int i = 0; i < rounds; i++) {
                int sort = pair.random.nextInt(2);
                String text = sort == 0 ? pair.houseText() : pair.readingText();
                pair.text(pair.random.nextInt(12) == 0 ? 1 - sort : sort, pair.random.nextInt(5) == 0 ? text : pair.spoiled(text));
            }
        }
    }

    public static void main(String[] args) {
        int scale = args.length > 0 ? Integer.parseInt(args[0]) : 1;
        evenings(400 * scale, 3, 60);
        texts(300 * scale, 40);
        System.out.println(checks + " answers compared, " + wrong + " differ");
        if (wrong != 0) {
            System.exit(1);
        }
    }
}
