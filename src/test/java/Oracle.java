import java.math.BigInteger;
import java.util.ArrayList;
import java.util.HashMap;
import java.util.List;
import java.util.Map;

/** The document once more, written slowly and without keeping anything between calls. */
final class Oracle {
    record Post(int cell, int hard) { }
    record Person(int sort, int cell, int way, int cold) { }
    record Event(int kind, int hour, int number) { }
    record Sight(int hour, int post, int is) { }

    /** All that one supposes of a day. */
    record World(List<Post> posts, List<Person> people, List<Event> events) {
        World withPerson(int i, Person other) {
            List<Person> changed = new ArrayList<>(people);
            changed.set(i, other);
            return new World(posts, changed, events);
        }
        World withEvents(List<Event> others) {
            return new World(posts, people, others);
        }
        World withEvent(Event more) {
            List<Event> changed = new ArrayList<>(events);
            changed.add(more);
            return withEvents(changed);
        }
        World withoutEvents(int... which) {
            List<Event> changed = new ArrayList<>();
            for (int e = 0; e < events.size(); e++) {
                boolean out = false;
                for (int w : which) out |= w == e;
                if (!out) changed.add(events.get(e));
            }
            return withEvents(changed);
        }
    }

    static final class Day {
        final int[][] cell, cold, stood, by;
        final boolean[][] sneezed;
        final World world;

        Day(World world) {
            this.world = world;
            int people = world.people.size(), posts = world.posts.size();
            cell = new int[24][people];
            cold = new int[24][people];
            sneezed = new boolean[24][people];
            stood = new int[24][posts];
            by = new int[24][posts];
            for (int h = 0; h < 24; h++) {
                for (int p = 0; p < people; p++) {
                    cell[h][p] = cellAt(world.people.get(p), h);
                    int coldNow = h == 0 ? world.people.get(p).cold : cold[h - 1][p];
                    sneezed[h][p] = sneezes(p, cell[h][p], coldNow, h);
                }
                for (int q = 0; q < posts; q++) {
                    by[h][q] = -1;
                    for (int p = people - 1; p >= 0; p--) {
                        if (sneezed[h][p] && hears(world.posts.get(q), world.people.get(p).sort, cell[h][p])) by[h][q] = p;
                    }
                    stood[h][q] = by[h][q] >= 0 ? 0 : 1 + (h == 0 ? 0 : stood[h - 1][q]);
                }
                for (int p = 0; p < people; p++) {
                    int coldNow = h == 0 ? world.people.get(p).cold : cold[h - 1][p];
                    boolean catches = false;
                    for (int o = 0; o < people; o++) catches |= o != p && sneezed[h][o] && cell[h][o] == cell[h][p];
                    cold[h][p] = catches ? Math.max(1, coldNow - 1) : coldNow;
                }
            }
        }

        // To and fro is a round of 18: up 0 .. 9, then down 8 .. 1.
        static int cellAt(Person person, int hour) {
            int start = person.way == 0 ? person.cell : 18 - person.cell;
            int on = (start + hour) % 18;
            return on <= 9 ? on : 18 - on;
        }

        boolean sneezes(int p, int cellNow, int coldNow, int h) {
            boolean does = (h + 1) % coldNow == 0;
            for (Event e : world.events) {
                if (e.hour == h && e.kind == 2) does = true;
                if (e.hour == h && e.kind == 0 && e.number == cellNow) does = true;
            }
            for (Event e : world.events) {
                if (e.hour == h && e.kind == 1 && e.number == p) does = false;
            }
            return does;
        }

        static boolean hears(Post post, int sort, int from) {
            int loud = sort == 0 ? 2 : sort == 1 ? 4 : 7;
            return loud - Math.abs(post.cell - from) >= post.hard;
        }

        int changes(int h) {
            int bits = 0;
            for (int q = 0; q < world.posts.size(); q++) if (by[h][q] >= 0) bits |= 1 << q;
            return bits;
        }
        int all() {
            int n = 0;
            for (int h = 0; h < 24; h++) n += Integer.bitCount(changes(h));
            return n;
        }
        int forgotten() {
            int bits = 0;
            for (int h = 0; h < 24; h++) {
                for (int q = 0; q < world.posts.size(); q++) if (stood[h][q] >= 12) bits |= 1 << q;
            }
            return bits;
        }
        int[] longest() {
            int[] best = {-1, -1, -1};
            for (int h = 23; h >= 0; h--) {
                for (int q = world.posts.size() - 1; q >= 0; q--) {
                    if (stood[h][q] >= best[2]) best = new int[] {h, q, stood[h][q]};
                }
            }
            return best;
        }
    }

    final StringBuilder[] texts = {new StringBuilder(), new StringBuilder()};
    final List<Event> events = new ArrayList<>();
    final List<Sight> sights = new ArrayList<>();
    final int[][] sheets = new int[4][];
    final int[] forms = new int[4];
    int finding = 0;

    static final String[] SHAPES = {"[0-9][0-3]", "[pcg][0-9][ew][1-9]"};
    static final int[] WIDTH = {2, 4}, MOST = {23, 29}, THINGS = {8, 6};

    int type(int text, int b) {
        if (bad(text, 2) || bad(b, 256)) return -2;
        if (texts[text].length() == MOST[text]) return -4;
        texts[text].append((char) b);
        return texts[text].length();
    }
    int wipe(int text) {
        if (bad(text, 2)) return -2;
        int had = texts[text].length();
        texts[text].setLength(0);
        return had;
    }
    int undo(int text) {
        if (bad(text, 2)) return -2;
        if (texts[text].length() == 0) return -3;
        texts[text].setLength(texts[text].length() - 1);
        return texts[text].length();
    }
    static boolean bad(int number, int bound) {
        return number < 0 || number >= bound;
    }

    // A prefix goes on as long as some ending makes a whole text of it.
    int fault(int text) {
        if (bad(text, 2)) return -2;
        String told = texts[text].toString();
        if (isWhole(text, told)) return -1;
        for (int n = 1; n <= told.length(); n++) {
            if (!canGoOn(text, told.substring(0, n))) return n - 1;
        }
        return told.length();
    }
    boolean isWhole(int text, String told) {
        return told.isEmpty()
            || told.matches(SHAPES[text] + "(;" + SHAPES[text] + "){0," + (THINGS[text] - 1) + "}");
    }
    boolean canGoOn(int text, String told) {
        String example = text == 0 ? "00" : "p0e1";
        int inThing = told.length() % (WIDTH[text] + 1);
        return isWhole(text, told + example.substring(Math.min(inThing, WIDTH[text])))
            || isWhole(text, told + ";" + example) && inThing == WIDTH[text];
    }

    World world() {
        List<Post> posts = new ArrayList<>();
        List<Person> people = new ArrayList<>();
        if (fault(0) == -1 && texts[0].length() > 0) {
            for (String s : texts[0].toString().split(";")) posts.add(new Post(s.charAt(0) - '0', s.charAt(1) - '0'));
        }
        if (fault(1) == -1 && texts[1].length() > 0) {
            for (String s : texts[1].toString().split(";")) {
                people.add(new Person("pcg".indexOf(s.charAt(0)), s.charAt(1) - '0',
                    s.charAt(2) == 'e' ? 0 : 1, s.charAt(3) - '0'));
            }
        }
        return new World(posts, people, new ArrayList<>(events));
    }
    Day day() {
        return new Day(world());
    }

    int post(int post, int what) {
        World w = world();
        if (bad(post, w.posts.size()) || bad(what, 2)) return -2;
        return what == 0 ? w.posts.get(post).cell : w.posts.get(post).hard;
    }
    int person(int person, int what) {
        World w = world();
        if (bad(person, w.people.size()) || bad(what, 4)) return -2;
        Person p = w.people.get(person);
        return new int[] {p.sort, p.cell, p.way, p.cold}[what];
    }
    int event(int kind, int hour, int number) {
        if (!mayBe(kind, hour, number)) return -2;
        if (events.size() == 8) return -4;
        events.add(new Event(kind, hour, number));
        return events.size();
    }
    static boolean mayBe(int kind, int hour, int number) {
        return !bad(kind, 3) && !bad(hour, 24) && !bad(number, 10);
    }
    int back() {
        if (events.isEmpty()) return -3;
        events.remove(events.size() - 1);
        return events.size();
    }
    int found(int number) {
        finding = number;
        return -10 - number;
    }
    int read(int s) {
        if (bad(s, 4)) return -2;
        if (sheets[s] == null) return found(1);
        int came = 0;
        while (3 * came + 3 <= sheets[s].length && events.size() < 8
            && mayBe(sheets[s][3 * came], sheets[s][3 * came + 1], sheets[s][3 * came + 2])) {
            events.add(new Event(sheets[s][3 * came], sheets[s][3 * came + 1], sheets[s][3 * came + 2]));
            came++;
        }
        return came;
    }

    int at(int hour, int person, int what) {
        Day d = day();
        if (bad(hour, 24) || bad(person, d.world.people.size()) || bad(what, 4)) return -2;
        int times = 0;
        for (int h = 0; h <= hour; h++) if (d.sneezed[h][person]) times++;
        return new int[] {d.cell[hour][person], d.sneezed[hour][person] ? 1 : 0, times, d.cold[hour][person]}[what];
    }
    int stood(int hour, int post, int what) {
        Day d = day();
        if (bad(hour, 24) || bad(post, d.world.posts.size()) || bad(what, 3)) return -2;
        int times = 0;
        for (int h = 0; h <= hour; h++) if (d.by[h][post] >= 0) times++;
        return new int[] {d.stood[hour][post], times, d.by[hour][post]}[what];
    }
    int changes(int hour) {
        return bad(hour, 24) ? -2 : day().changes(hour);
    }
    int longest(int what) {
        return bad(what, 3) ? -2 : day().longest()[what];
    }
    int busy() {
        Day d = day();
        int[] n = new int[6];
        for (int[] row : d.by) for (int p : row) if (p >= 0) n[p]++;
        int best = -1;
        for (int p = 5; p >= 0; p--) if (n[p] > 0 && (best < 0 || n[p] >= n[best])) best = p;
        return best;
    }
    int quiet() {
        Day d = day();
        int bits = 0;
        for (int p = 0; p < d.world.people.size(); p++) {
            boolean ever = false;
            for (boolean[] row : d.sneezed) ever |= row[p];
            if (!ever) bits |= 1 << p;
        }
        return bits;
    }

    int stroll(int person, int what) {
        World w = world();
        if (bad(person, w.people.size()) || bad(what, 2)) return -2;
        if (w.posts.isEmpty()) return 0;
        int[] best = null;
        for (int c = 9; c >= 0; c--) {
            Person p = w.people.get(person);
            int n = new Day(w.withPerson(person, new Person(p.sort, c, p.way, p.cold))).longest()[2];
            if (best == null || n <= best[1]) best = new int[] {c, n};
        }
        return best[what];
    }
    int dust(int hour, int what) {
        if (bad(hour, 24) || bad(what, 2)) return -2;
        int[] best = null;
        for (int c = 9; c >= 0; c--) {
            int n = new Day(world().withEvent(new Event(0, hour, c))).all();
            if (best == null || n >= best[1]) best = new int[] {c, n};
        }
        return best[what];
    }
    int hush(int hour, int what) {
        if (bad(hour, 24) || bad(what, 2)) return -2;
        int[] best = {-1, -1};
        for (int p = world().people.size() - 1; p >= 0; p--) {
            int n = new Day(world().withEvent(new Event(1, hour, p))).all();
            if (best[0] < 0 || n <= best[1]) best = new int[] {p, n};
        }
        return best[what];
    }
    int spare(int i) {
        if (i < -1 || i > 1) return -2;
        List<int[]> choices = new ArrayList<>();
        choices.add(new int[0]);
        for (int e = 0; e < events.size(); e++) choices.add(new int[] {e});
        for (int e = 0; e < events.size(); e++) {
            for (int f = e + 1; f < events.size(); f++) choices.add(new int[] {e, f});
        }
        for (int[] choice : choices) {
            if (new Day(world().withoutEvents(choice)).forgotten() == 0) {
                return i == -1 ? choice.length : i < choice.length ? choice[i] : -1;
            }
        }
        return -1;
    }

    int seen(int hour, int post, int is) {
        if (bad(hour, 24) || bad(post, 8) || bad(is, 2)) return -2;
        if (sights.size() == 8) return -4;
        sights.add(new Sight(hour, post, is));
        return sights.size();
    }
    int forget() {
        int had = sights.size();
        sights.clear();
        return had;
    }
    boolean comesOut(World w) {
        Day d = new Day(w);
        for (Sight s : sights) {
            if (s.post >= w.posts.size()) return false;
            if ((d.by[s.hour][s.post] >= 0) != (s.is == 1)) return false;
        }
        return true;
    }
    int never() {
        int bits = 0;
        for (int e = 0; e < events.size(); e++) if (comesOut(world().withoutEvents(e))) bits |= 1 << e;
        return bits;
    }
    int was(int person, int what) {
        World w = world();
        if (bad(person, w.people.size()) || bad(what, 2)) return -2;
        Person p = w.people.get(person);
        int bits = 0;
        for (int v = what == 0 ? 0 : 1; v <= (what == 0 ? 2 : 9); v++) {
            Person other = what == 0 ? new Person(v, p.cell, p.way, p.cold) : new Person(p.sort, p.cell, p.way, v);
            if (comesOut(w.withPerson(person, other))) bits |= 1 << v;
        }
        return bits;
    }
    int ask(int person) {
        World w = world();
        if (bad(person, w.people.size())) return -2;
        Person p = w.people.get(person);
        int colds = was(person, 1);
        int best = -1, fewest = 99;
        for (int h = 0; h < 24; h++) {
            Map<Integer, Integer> groups = new HashMap<>();
            for (int v = 1; v <= 9; v++) {
                if ((colds >> v & 1) == 0) continue;
                Day d = new Day(w.withPerson(person, new Person(p.sort, p.cell, p.way, v)));
                groups.merge(d.changes(h), 1, Integer::sum);
            }
            int greatest = 0;
            for (int n : groups.values()) greatest = Math.max(greatest, n);
            if (greatest < fewest) {
                fewest = greatest;
                best = h;
            }
        }
        return best;
    }
    long chance(int c, int post, int what) {
        World w = world();
        if (bad(c, 17) || bad(post, w.posts.size()) || bad(what, 2)) return Long.MIN_VALUE + 2;
        BigInteger above = BigInteger.ZERO, below = BigInteger.valueOf(16).pow(events.size());
        for (int mask = 0; mask < 1 << events.size(); mask++) {
            List<Event> some = new ArrayList<>();
            BigInteger weight = BigInteger.ONE;
            for (int e = 0; e < events.size(); e++) {
                boolean is = (mask >> e & 1) == 1;
                if (is) some.add(events.get(e));
                weight = weight.multiply(BigInteger.valueOf(is ? c : 16 - c));
            }
            if (weight.signum() > 0 && (new Day(w.withEvents(some)).forgotten() >> post & 1) == 1) {
                above = above.add(weight);
            }
        }
        BigInteger common = above.gcd(below);
        return (what == 0 ? above : below).divide(common).longValueExact();
    }
    int decades(int seed, int n, int what) {
        if (bad(n, 9) || bad(what, 2)) return -2;
        List<Event> drawn = new ArrayList<>();
        int[] lots = new int[3 * n];
        long s = seed;
        for (int i = 0; i < lots.length; i++) {
            s = (1103515245L * s + 12345L) & 0xffffffffL;
            lots[i] = (int) ((s >> 16) % (i % 3 == 0 ? 3 : i % 3 == 1 ? 24 : 10));
        }
        for (int i = 0; i < n; i++) drawn.add(new Event(lots[3 * i], lots[3 * i + 1], lots[3 * i + 2]));
        Day d = new Day(world().withEvents(drawn));
        return what == 0 ? d.all() : Integer.bitCount(d.forgotten());
    }

    int sheet(int s, int form, int n) {
        if (bad(s, 4) || bad(form, 3) || n > 60) return -2;
        if (n < 0) return found(5);
        sheets[s] = new int[n];
        forms[s] = form;
        return n;
    }
    int lose(int s) {
        if (bad(s, 4)) return -2;
        if (sheets[s] == null) return found(1);
        int had = sheets[s].length;
        sheets[s] = null;
        return had;
    }
    static int cut(int form, int v) {
        int bits = 8 << form;
        return v << 32 - bits >> 32 - bits;
    }
    int lay(int s, int form, int i, int v) {
        if (bad(s, 4) || bad(form, 3)) return -2;
        if (sheets[s] == null) return found(1);
        if (forms[s] != form) return found(3);
        if (bad(i, sheets[s].length)) return found(2);
        sheets[s][i] = cut(form, v);
        return 1;
    }
    int get(int s, int form, int i) {
        if (bad(s, 4) || bad(form, 3)) return Integer.MIN_VALUE;
        int wrong = sheets[s] == null ? 1 : forms[s] != form ? 3 : bad(i, sheets[s].length) ? 2 : 0;
        if (wrong != 0) {
            finding = wrong;
            return Integer.MIN_VALUE;
        }
        return sheets[s][i];
    }
    int copy(int s, int i, int t, int j, int n) {
        if (bad(s, 4) || bad(t, 4)) return -2;
        if (sheets[s] == null || sheets[t] == null) return found(1);
        if (forms[s] != forms[t]) return found(4);
        if (i < 0 || j < 0 || n < 0 || (long) i + n > sheets[s].length || (long) j + n > sheets[t].length) return found(2);
        int[] from = sheets[s].clone();
        for (int k = 0; k < n; k++) sheets[t][j + k] = from[i + k];
        return 1;
    }
    int write(int post, int s) {
        if (bad(post, world().posts.size()) || bad(s, 4)) return -2;
        if (sheets[s] == null) return found(1);
        int came = 0;
        while (came < 24 && came < sheets[s].length) {
            sheets[s][came] = cut(forms[s], stood(came, post, 0));
            came++;
        }
        return came;
    }
    int count(int what) {
        World w = world();
        switch (what) {
            case 0: return w.posts.size();
            case 1: return w.people.size();
            case 2: return texts[0].length();
            case 3: return texts[1].length();
            case 4: return events.size();
            case 5: return day().all();
            case 6: return Integer.bitCount(day().forgotten());
            case 7: return sights.size();
            case 8: return finding;
            default: return -2;
        }
    }

    long digest() {
        List<Long> told = new ArrayList<>();
        for (int w = 0; w <= 7; w++) told.add((long) count(w));
        for (int t = 0; t < 2; t++) told.add((long) fault(t));
        int[] hours = {0, 7, 15, 23};
        for (int q = 0; q < count(0); q++) {
            for (int w = 0; w < 2; w++) told.add((long) post(q, w));
            for (int h : hours) for (int w = 0; w < 3; w++) told.add((long) stood(h, q, w));
            for (int w = 0; w < 2; w++) told.add(chance(5, q, w));
        }
        for (int p = 0; p < count(1); p++) {
            for (int w = 0; w < 4; w++) told.add((long) person(p, w));
            for (int h : hours) for (int w = 0; w < 4; w++) told.add((long) at(h, p, w));
            for (int w = 0; w < 2; w++) told.add((long) stroll(p, w));
            for (int w = 0; w < 2; w++) told.add((long) was(p, w));
            told.add((long) ask(p));
        }
        for (int h = 0; h < 24; h++) told.add((long) changes(h));
        told.add((long) day().forgotten());
        for (int w = 0; w < 3; w++) told.add((long) longest(w));
        told.add((long) busy());
        told.add((long) quiet());
        for (int w = 0; w < 2; w++) told.add((long) dust(8, w));
        for (int w = 0; w < 2; w++) told.add((long) hush(8, w));
        told.add((long) spare(-1));
        told.add((long) spare(0));
        told.add((long) never());
        for (int w = 0; w < 2; w++) told.add((long) decades(7, 6, w));
        long h = 17;
        for (long t : told) h = 31 * h + t;
        return h;
    }
}
