import java.util.Arrays;

/** A guard that is changed at a sneeze; what each call answers is told in the document. */
public final class SneezeGuard {
    public static final int NONE = -1, BAD = -2, NOT = -3, FULL = -4;

    private static final int HOURS = 24;
    private static final int CELLS = 10;
    private static final int SORTS = 3;
    private static final int MOST_COLD = 9;
    private static final int TEXTS = 2;
    private static final int POSTS_TEXT = 0;
    private static final int MOST_POSTS = 8;
    private static final int MOST_PEOPLE = 6;
    private static final int MOST_EVENTS = 8;
    private static final int MOST_SEEN = 8;
    private static final int SIXTEENTHS = 16;
    private static final int DIGEST_CHANCE = 5;
    private static final int DIGEST_HOUR = 8;

    private final Kingdom kingdom = new Kingdom();
    private final Plans plans = new Plans(kingdom);
    private final Hindsight hindsight = new Hindsight(kingdom);
    private final Chances chances = new Chances(kingdom);
    private final Sheets sheets = new Sheets();

    public SneezeGuard() {
    }

    // ---- posts, people, events

    public int type(int text, int b) {
        if (!isBelow(text, TEXTS) || !isBelow(b, 256)) {
            return BAD;
        }
        int length = kingdom.textOf(text).add(b);
        kingdom.tellAnew();
        return length;
    }

    public int wipe(int text) {
        if (!isBelow(text, TEXTS)) {
            return BAD;
        }
        int had = kingdom.textOf(text).clear();
        kingdom.tellAnew();
        return had;
    }

    public int undo(int text) {
        if (!isBelow(text, TEXTS)) {
            return BAD;
        }
        int left = kingdom.textOf(text).dropLast();
        kingdom.tellAnew();
        return left;
    }

    public int fault(int text) {
        return isBelow(text, TEXTS) ? kingdom.textOf(text).firstFault() : BAD;
    }

    public int post(int post, int what) {
        if (!isPost(post) || !isBelow(what, 2)) {
            return BAD;
        }
        return what == 0 ? kingdom.wall.postCell[post] : kingdom.wall.hard[post];
    }

    public int person(int person, int what) {
        if (!isPerson(person)) {
            return BAD;
        }
        switch (what) {
            case 0: return kingdom.wall.sort[person];
            case 1: return kingdom.wall.cell[person];
            case 2: return kingdom.wall.way[person];
            case 3: return kingdom.wall.cold[person];
            default: return BAD;
        }
    }

    public int event(int kind, int hour, int number) {
        if (!Events.mayBe(kind, hour, number)) {
            return BAD;
        }
        if (!kingdom.events.add(kind, hour, number)) {
            return FULL;
        }
        kingdom.tellAnew();
        return kingdom.events.events;
    }

    public int back() {
        if (kingdom.events.events == 0) {
            return NOT;
        }
        kingdom.events.events--;
        kingdom.tellAnew();
        return kingdom.events.events;
    }

    public int read(int s) {
        int refusal = sheets.refusalOf(s);
        if (refusal != 0) {
            return refusal;
        }
        int came = 0;
        for (int i = 0; i + 2 < sheets.lengthOf(s); i += 3) {
            int kind = sheets.item(s, i);
            int hour = sheets.item(s, i + 1);
            int number = sheets.item(s, i + 2);
            if (!Events.mayBe(kind, hour, number) || !kingdom.events.add(kind, hour, number)) {
                break;
            }
            came++;
        }
        kingdom.tellAnew();
        return came;
    }

    // ---- hours

    public int at(int hour, int person, int what) {
        if (!isBelow(hour, HOURS) || !isPerson(person)) {
            return BAD;
        }
        switch (what) {
            case 0: return kingdom.told.cell[hour * MOST_PEOPLE + person];
            case 1: return kingdom.told.sneezers[hour] >> person & 1;
            case 2: return timesOfBit(kingdom.told.sneezers, person, hour);
            case 3: return kingdom.told.cold[hour * MOST_PEOPLE + person];
            default: return BAD;
        }
    }

    public int stood(int hour, int post, int what) {
        if (!isBelow(hour, HOURS) || !isPost(post)) {
            return BAD;
        }
        switch (what) {
            case 0: return kingdom.told.stood[hour * MOST_POSTS + post];
            case 1: return timesOfBit(kingdom.told.changes, post, hour);
            case 2: return kingdom.told.changerOf(hour, post);
            default: return BAD;
        }
    }

    public int changes(int hour) {
        return isBelow(hour, HOURS) ? kingdom.told.changes[hour] : BAD;
    }

    public int forgotten() {
        return kingdom.told.forgotten;
    }

    public int longest(int what) {
        switch (what) {
            case 0: return kingdom.told.longestHour;
            case 1: return kingdom.told.longestPost;
            case 2: return kingdom.told.longest;
            default: return BAD;
        }
    }

    public int all() {
        return kingdom.told.total;
    }

    public int busy() {
        return kingdom.told.busiest();
    }

    public int quiet() {
        return kingdom.told.silent();
    }

    // ---- plans

    public int stroll(int person, int what) {
        if (!isPerson(person) || !isBelow(what, 2)) {
            return BAD;
        }
        plans.planStroll(person);
        return what == 0 ? plans.which : plans.howMany;
    }

    public int dust(int hour, int what) {
        if (!isBelow(hour, HOURS) || !isBelow(what, 2)) {
            return BAD;
        }
        plans.planDust(hour);
        return what == 0 ? plans.which : plans.howMany;
    }

    public int hush(int hour, int what) {
        if (!isBelow(hour, HOURS) || !isBelow(what, 2)) {
            return BAD;
        }
        plans.planHush(hour);
        return what == 0 ? plans.which : plans.howMany;
    }

    public int spare(int i) {
        if (i < NONE || i > 1) {
            return BAD;
        }
        plans.planSpare();
        if (i == NONE) {
            return plans.howMany;
        }
        return i == 0 ? plans.first : plans.second;
    }

    // ---- seen, chance, decades

    public int seen(int hour, int post, int is) {
        if (!isBelow(hour, HOURS) || !isBelow(post, MOST_POSTS) || !isBelow(is, 2)) {
            return BAD;
        }
        return hindsight.see(hour, post, is);
    }

    public int forget() {
        int had = hindsight.seen;
        hindsight.seen = 0;
        return had;
    }

    public int never() {
        return hindsight.needless();
    }

    public int was(int person, int what) {
        if (!isPerson(person) || !isBelow(what, 2)) {
            return BAD;
        }
        return what == 0 ? hindsight.sortsOf(person) : hindsight.coldsOf(person);
    }

    public int ask(int person) {
        return isPerson(person) ? hindsight.hourToAsk(person) : BAD;
    }

    public long chance(int c, int post, int what) {
        if (!isBelow(c, SIXTEENTHS + 1) || !isPost(post) || !isBelow(what, 2)) {
            return Long.MIN_VALUE - BAD;
        }
        return chances.fraction(c, post, what);
    }

    public int decades(int seed, int n, int what) {
        if (!isBelow(n, MOST_EVENTS + 1) || !isBelow(what, 2)) {
            return BAD;
        }
        Day day = chances.dayByLots(seed, n);
        return what == 0 ? day.total : Integer.bitCount(day.forgotten);
    }

    // ---- sheets

    public int sheet(int s, int form, int n) {
        return sheets.make(s, form, n);
    }

    public int lose(int s) {
        return sheets.drop(s);
    }

    public int lay(int s, int form, int i, int v) {
        int refusal = sheets.refusalOfItem(s, form, i);
        if (refusal != 0) {
            return refusal;
        }
        sheets.put(s, i, v);
        return 1;
    }

    public int get(int s, int form, int i) {
        return sheets.refusalOfItem(s, form, i) != 0 ? Integer.MIN_VALUE : sheets.item(s, i);
    }

    public int copy(int s, int i, int t, int j, int n) {
        return sheets.move(s, i, t, j, n);
    }

    public int write(int post, int s) {
        if (!isPost(post)) {
            return BAD;
        }
        int refusal = sheets.refusalOf(s);
        if (refusal != 0) {
            return refusal;
        }
        int came = Math.min(sheets.lengthOf(s), HOURS);
        for (int hour = 0; hour < came; hour++) {
            sheets.put(s, hour, kingdom.told.stood[hour * MOST_POSTS + post]);
        }
        return came;
    }

    public int count(int what) {
        switch (what) {
            case 0: return kingdom.wall.posts;
            case 1: return kingdom.wall.people;
            case 2: return kingdom.postsText.length;
            case 3: return kingdom.peopleText.length;
            case 4: return kingdom.events.events;
            case 5: return kingdom.told.total;
            case 6: return Integer.bitCount(kingdom.told.forgotten);
            case 7: return hindsight.seen;
            case 8: return sheets.latestFinding;
            default: return BAD;
        }
    }

    public long digest() {
        long h = 17;
        for (int what = 0; what < 8; what++) {
            h = 31 * h + count(what);
        }
        for (int text = 0; text < TEXTS; text++) {
            h = 31 * h + fault(text);
        }
        for (int post = 0; post < kingdom.wall.posts; post++) {
            h = digestPost(h, post);
        }
        for (int person = 0; person < kingdom.wall.people; person++) {
            h = digestPerson(h, person);
        }
        for (int hour = 0; hour < HOURS; hour++) {
            h = 31 * h + changes(hour);
        }
        return digestRest(h);
    }

    private long digestPost(long before, int post) {
        long h = before;
        for (int what = 0; what < 2; what++) {
            h = 31 * h + post(post, what);
        }
        for (int i = 0; i < 4; i++) {
            for (int what = 0; what < 3; what++) {
                h = 31 * h + stood(digestHour(i), post, what);
            }
        }
        h = 31 * h + chances.fraction(DIGEST_CHANCE, post, 0);
        return 31 * h + chances.fraction(DIGEST_CHANCE, post, 1);
    }

    private long digestPerson(long before, int person) {
        long h = before;
        for (int what = 0; what < 4; what++) {
            h = 31 * h + person(person, what);
        }
        for (int i = 0; i < 4; i++) {
            for (int what = 0; what < 4; what++) {
                h = 31 * h + at(digestHour(i), person, what);
            }
        }
        h = 31 * h + stroll(person, 0);
        h = 31 * h + stroll(person, 1);
        h = 31 * h + was(person, 0);
        h = 31 * h + was(person, 1);
        return 31 * h + hindsight.hourToAsk(person);
    }

    private long digestRest(long before) {
        long h = 31 * before + forgotten();
        for (int what = 0; what < 3; what++) {
            h = 31 * h + longest(what);
        }
        h = 31 * h + busy();
        h = 31 * h + quiet();
        h = 31 * h + dust(DIGEST_HOUR, 0);
        h = 31 * h + dust(DIGEST_HOUR, 1);
        h = 31 * h + hush(DIGEST_HOUR, 0);
        h = 31 * h + hush(DIGEST_HOUR, 1);
        h = 31 * h + spare(NONE);
        h = 31 * h + spare(0);
        h = 31 * h + never();
        h = 31 * h + decades(7, 6, 0);
        return 31 * h + decades(7, 6, 1);
    }

    private static int digestHour(int i) {
        switch (i) {
            case 0: return 0;
            case 1: return 7;
            case 2: return 15;
            default: return 23;
        }
    }

    private boolean isPost(int post) {
        return isBelow(post, kingdom.wall.posts);
    }

    private boolean isPerson(int person) {
        return isBelow(person, kingdom.wall.people);
    }

    private static boolean isBelow(int number, int bound) {
        return number >= 0 && number < bound;
    }

    private static boolean hasBit(int bits, int bit) {
        return (bits >> bit & 1) != 0;
    }

    private static int timesOfBit(int[] bitsOfHours, int bit, int lastHour) {
        int times = 0;
        for (int hour = 0; hour <= lastHour && hour < bitsOfHours.length; hour++) {
            times += bitsOfHours[hour] >> bit & 1;
        }
        return times;
    }

    /** A text as it is typed: things of a like shape, with a ; between each two. */
    private static final class Text {
        private static final int MOST_POSTS_BYTES = 23;
        private static final int MOST_PEOPLE_BYTES = 29;

        final boolean ofPosts;
        final int period;
        final int[] bytes;
        int length;

        Text(boolean ofPosts) {
            this.ofPosts = ofPosts;
            this.period = ofPosts ? 3 : 5;
            this.bytes = new int[ofPosts ? MOST_POSTS_BYTES : MOST_PEOPLE_BYTES];
        }

        int add(int b) {
            if (length >= bytes.length) {
                return FULL;
            }
            bytes[length] = b;
            length++;
            return length;
        }

        int clear() {
            int had = length;
            length = 0;
            return had;
        }

        int dropLast() {
            if (length == 0) {
                return NOT;
            }
            length--;
            return length;
        }

        // The length ends ahead of a ninth POST and of a seventh of PEOPLE, so these need no test.
        int firstFault() {
            int place = 0;
            for (int i = 0; i < length; i++) {
                if (signs(place).indexOf((char) bytes[i]) < 0) {
                    return i;
                }
                place = place + 1 < period ? place + 1 : 0;
            }
            return length == 0 || place == period - 1 ? NONE : length;
        }

        int things() {
            return period > 0 && firstFault() == NONE ? (length + 1) / period : 0;
        }

        /** Which of the signs of its place a byte is: figures told from 0 are their own numbers. */
        int number(int thing, int place) {
            int i = thing * period + place;
            return isBelow(i, length) ? signs(place).indexOf((char) bytes[i]) : 0;
        }

        private String signs(int place) {
            return ofPosts ? signsOfPost(place) : signsOfPerson(place);
        }

        private static String signsOfPost(int place) {
            switch (place) {
                case 0: return "0123456789";
                case 1: return "0123";
                default: return ";";
            }
        }

        private static String signsOfPerson(int place) {
            switch (place) {
                case 0: return "pcg";
                case 1: return "0123456789";
                case 2: return "ew";
                case 3: return "123456789";
                default: return ";";
            }
        }
    }

    /** POSTS and PEOPLE as the texts tell them. */
    private static final class Wall {
        private static final int[] LOUD = {2, 4, 7};

        int posts;
        final int[] postCell = new int[MOST_POSTS];
        final int[] hard = new int[MOST_POSTS];
        // Bits of the POSTS that hear a sort in a CELL, so that a day need not measure again.
        final int[] hearers = new int[SORTS * CELLS];
        int people;
        final int[] sort = new int[MOST_PEOPLE];
        final int[] cell = new int[MOST_PEOPLE];
        final int[] way = new int[MOST_PEOPLE];
        final int[] cold = new int[MOST_PEOPLE];

        void loadPosts(Text text) {
            posts = Math.min(text.things(), MOST_POSTS);
            for (int post = 0; post < posts; post++) {
                postCell[post] = text.number(post, 0);
                hard[post] = text.number(post, 1);
            }
            for (int s = 0; s < SORTS; s++) {
                for (int c = 0; c < CELLS; c++) {
                    hearers[s * CELLS + c] = hearersByDistance(LOUD[s], c);
                }
            }
        }

        void loadPeople(Text text) {
            people = Math.min(text.things(), MOST_PEOPLE);
            for (int person = 0; person < people; person++) {
                sort[person] = text.number(person, 0);
                cell[person] = text.number(person, 1);
                way[person] = text.number(person, 2);
                cold[person] = text.number(person, 3) + 1;
            }
        }

        int hearersOf(int sneezerSort, int sneezerCell) {
            int i = sneezerSort * CELLS + sneezerCell;
            return i >= 0 && i < hearers.length ? hearers[i] : 0;
        }

        private int hearersByDistance(int loud, int from) {
            int bits = 0;
            for (int post = 0; post < posts; post++) {
                if (loud - Math.abs(from - postCell[post]) >= hard[post]) {
                    bits |= 1 << post;
                }
            }
            return bits;
        }
    }

    /** EVENTS in the order in which they were told. */
    private static final class Events {
        static final int PEPPER = 0;
        static final int HELD = 1;
        static final int KINDS = 3;
        static final int NUMBERS = 10;

        int events;
        final int[] kind = new int[MOST_EVENTS];
        final int[] hour = new int[MOST_EVENTS];
        final int[] number = new int[MOST_EVENTS];

        static boolean mayBe(int kind, int hour, int number) {
            return isBelow(kind, KINDS) && isBelow(hour, HOURS) && isBelow(number, NUMBERS);
        }

        boolean add(int newKind, int newHour, int newNumber) {
            if (events >= MOST_EVENTS) {
                return false;
            }
            kind[events] = newKind;
            hour[events] = newHour;
            number[events] = newNumber;
            events++;
            return true;
        }

        int everyBit() {
            return (1 << events) - 1;
        }
    }

    /** What EVENTS make of each HOUR. */
    private static final class Weather {
        final int[] pepperedCells = new int[HOURS];
        final int[] heldPeople = new int[HOURS];
        final boolean[] frost = new boolean[HOURS];

        void load(Events events, int which) {
            for (int hour = 0; hour < HOURS; hour++) {
                pepperedCells[hour] = 0;
                heldPeople[hour] = 0;
                frost[hour] = false;
            }
            for (int e = 0; e < events.events; e++) {
                if (hasBit(which, e) && isBelow(events.hour[e], HOURS)) {
                    add(events.kind[e], events.hour[e], events.number[e]);
                }
            }
        }

        private void add(int kind, int hour, int number) {
            if (kind == Events.PEPPER) {
                pepperedCells[hour] |= 1 << number;
            } else if (kind == Events.HELD) {
                heldPeople[hour] |= 1 << number;
            } else {
                frost[hour] = true;
            }
        }
    }

    /** All HOURS of a wall in a weather, and what came of them. */
    private static final class Day {
        private static final int FORGOTTEN_FROM = 12;

        final Wall wall;
        final Weather weather;
        final int[] cellNow = new int[MOST_PEOPLE];
        final int[] stepNow = new int[MOST_PEOPLE];
        final int[] coldNow = new int[MOST_PEOPLE];
        final int[] stoodNow = new int[MOST_POSTS];
        final int[] cell = new int[HOURS * MOST_PEOPLE];
        final int[] cold = new int[HOURS * MOST_PEOPLE];
        final int[] changed = new int[HOURS * MOST_PEOPLE];
        final int[] stood = new int[HOURS * MOST_POSTS];
        final int[] sneezers = new int[HOURS];
        final int[] changes = new int[HOURS];
        int total;
        int forgotten;
        int longest;
        int longestHour;
        int longestPost;

        Day(Wall wall, Weather weather) {
            this.wall = wall;
            this.weather = weather;
        }

        void pass() {
            begin();
            for (int hour = 0; hour < HOURS; hour++) {
                walk(hour);
                sneeze(hour);
                changeGuard(hour);
                stand(hour);
                spreadColds(hour);
            }
        }

        private void begin() {
            for (int person = 0; person < wall.people; person++) {
                cellNow[person] = wall.cell[person];
                stepNow[person] = wall.way[person] == 0 ? 1 : -1;
                coldNow[person] = wall.cold[person];
            }
            Arrays.fill(stoodNow, 0);
            total = 0;
            forgotten = 0;
            longest = NONE;
            longestHour = NONE;
            longestPost = NONE;
        }

        private void walk(int hour) {
            for (int person = 0; person < wall.people; person++) {
                if (hour > 0) {
                    if (!isBelow(cellNow[person] + stepNow[person], CELLS)) {
                        stepNow[person] = -stepNow[person];
                    }
                    cellNow[person] += stepNow[person];
                }
                cell[hour * MOST_PEOPLE + person] = cellNow[person];
            }
        }

        private void sneeze(int hour) {
            int who = 0;
            for (int person = 0; person < wall.people; person++) {
                if (weather.frost[hour] || hasBit(weather.pepperedCells[hour], cellNow[person])
                        || divides(coldNow[person], hour + 1)) {
                    who |= 1 << person;
                }
            }
            sneezers[hour] = who & ~weather.heldPeople[hour];
        }

        private static boolean divides(int divisor, int number) {
            return divisor > 0 && number % divisor == 0;
        }

        // PEOPLE come from the least on, so a POST is left to the first that it hears.
        private void changeGuard(int hour) {
            int sofar = 0;
            for (int person = 0; person < wall.people; person++) {
                int more = 0;
                if (hasBit(sneezers[hour], person)) {
                    more = wall.hearersOf(wall.sort[person], cellNow[person]) & ~sofar;
                }
                changed[hour * MOST_PEOPLE + person] = more;
                sofar |= more;
            }
            changes[hour] = sofar;
            total += Integer.bitCount(sofar);
        }

        private void stand(int hour) {
            for (int post = 0; post < wall.posts; post++) {
                stoodNow[post] = hasBit(changes[hour], post) ? 0 : stoodNow[post] + 1;
                stood[hour * MOST_POSTS + post] = stoodNow[post];
                if (stoodNow[post] >= FORGOTTEN_FROM) {
                    forgotten |= 1 << post;
                }
                if (stoodNow[post] > longest) {
                    longest = stoodNow[post];
                    longestHour = hour;
                    longestPost = post;
                }
            }
        }

        private void spreadColds(int hour) {
            int caught = 0;
            for (int one = 0; one < wall.people; one++) {
                if (hasBit(sneezers[hour], one)) {
                    caught |= othersInCellOf(one);
                }
            }
            for (int person = 0; person < wall.people; person++) {
                if (hasBit(caught, person) && coldNow[person] > 1) {
                    coldNow[person]--;
                }
                cold[hour * MOST_PEOPLE + person] = coldNow[person];
            }
        }

        private int othersInCellOf(int one) {
            int others = 0;
            for (int person = 0; person < wall.people; person++) {
                if (person != one && cellNow[person] == cellNow[one]) {
                    others |= 1 << person;
                }
            }
            return others;
        }

        int changerOf(int hour, int post) {
            for (int person = 0; person < wall.people; person++) {
                if (hasBit(changed[hour * MOST_PEOPLE + person], post)) {
                    return person;
                }
            }
            return NONE;
        }

        int busiest() {
            int who = NONE;
            int most = 0;
            for (int person = 0; person < wall.people; person++) {
                int times = 0;
                for (int hour = 0; hour < HOURS; hour++) {
                    times += Integer.bitCount(changed[hour * MOST_PEOPLE + person]);
                }
                if (times > most) {
                    most = times;
                    who = person;
                }
            }
            return who;
        }

        int silent() {
            int bits = (1 << wall.people) - 1;
            for (int hour = 0; hour < HOURS; hour++) {
                bits &= ~sneezers[hour];
            }
            return bits;
        }
    }

    /** All that is told, the day that comes of it, and days as they would be if it were otherwise. */
    private static final class Kingdom {
        private static final int UNKNOWN = -1;

        final Text postsText = new Text(true);
        final Text peopleText = new Text(false);
        final Wall wall = new Wall();
        final Events events = new Events();
        final Weather weather = new Weather();
        final Day told = new Day(wall, weather);
        final Day supposed = new Day(wall, weather);
        // One for each choice of EVENTS: chances ask for all 256, often one behind the other.
        final int[] forgottenBy = new int[1 << MOST_EVENTS];

        Kingdom() {
            tellAnew();
        }

        Text textOf(int text) {
            return text == POSTS_TEXT ? postsText : peopleText;
        }

        void tellAnew() {
            wall.loadPosts(postsText);
            wall.loadPeople(peopleText);
            clearWeather();
            Arrays.fill(forgottenBy, UNKNOWN);
            told.pass();
        }

        /** The weather of all EVENTS told, behind a day that was supposed otherwise. */
        void clearWeather() {
            weather.load(events, events.everyBit());
        }

        void supposeEvents(Events others, int which) {
            weather.load(others, which);
            supposed.pass();
            clearWeather();
        }

        int forgottenWith(int which) {
            if (!isBelow(which, forgottenBy.length)) {
                return 0;
            }
            if (forgottenBy[which] == UNKNOWN) {
                weather.load(events, which);
                supposed.pass();
                clearWeather();
                forgottenBy[which] = supposed.forgotten;
            }
            return forgottenBy[which];
        }
    }

    /** What had better be, and what had better not be. */
    private static final class Plans {
        final Kingdom kingdom;
        int which;
        int howMany;
        int first;
        int second;

        Plans(Kingdom kingdom) {
            this.kingdom = kingdom;
        }

        /** The PERSON is one that there is. */
        void planStroll(int person) {
            which = 0;
            howMany = 0;
            if (kingdom.wall.posts == 0) {
                return;
            }
            int own = kingdom.wall.cell[person];
            for (int cell = 0; cell < CELLS; cell++) {
                kingdom.wall.cell[person] = cell;
                kingdom.supposed.pass();
                if (cell == 0 || kingdom.supposed.longest < howMany) {
                    which = cell;
                    howMany = kingdom.supposed.longest;
                }
            }
            kingdom.wall.cell[person] = own;
        }

        /** The HOUR is one of the day. */
        void planDust(int hour) {
            int own = kingdom.weather.pepperedCells[hour];
            for (int cell = 0; cell < CELLS; cell++) {
                kingdom.weather.pepperedCells[hour] = own | 1 << cell;
                kingdom.supposed.pass();
                if (cell == 0 || kingdom.supposed.total > howMany) {
                    which = cell;
                    howMany = kingdom.supposed.total;
                }
            }
            kingdom.weather.pepperedCells[hour] = own;
        }

        /** The HOUR is one of the day. */
        void planHush(int hour) {
            which = NONE;
            howMany = NONE;
            int own = kingdom.weather.heldPeople[hour];
            for (int person = 0; person < kingdom.wall.people; person++) {
                kingdom.weather.heldPeople[hour] = own | 1 << person;
                kingdom.supposed.pass();
                if (person == 0 || kingdom.supposed.total < howMany) {
                    which = person;
                    howMany = kingdom.supposed.total;
                }
            }
            kingdom.weather.heldPeople[hour] = own;
        }

        void planSpare() {
            setSpare(NONE, NONE, NONE);
            if (kingdom.told.forgotten == 0) {
                setSpare(0, NONE, NONE);
                return;
            }
            int every = kingdom.events.everyBit();
            for (int e = 0; e < kingdom.events.events; e++) {
                if (kingdom.forgottenWith(every & ~(1 << e)) == 0) {
                    setSpare(1, e, NONE);
                    return;
                }
            }
            for (int e = 0; e < kingdom.events.events; e++) {
                for (int f = e + 1; f < kingdom.events.events; f++) {
                    if (kingdom.forgottenWith(every & ~(1 << e | 1 << f)) == 0) {
                        setSpare(2, e, f);
                        return;
                    }
                }
            }
        }

        private void setSpare(int spared, int firstSpared, int secondSpared) {
            howMany = spared;
            first = firstSpared;
            second = secondSpared;
        }
    }

    /** What was SEEN, and what that tells of what was. */
    private static final class Hindsight {
        final Kingdom kingdom;
        int seen;
        final int[] hour = new int[MOST_SEEN];
        final int[] post = new int[MOST_SEEN];
        final int[] is = new int[MOST_SEEN];
        final int[][] changesByCold = new int[MOST_COLD + 1][HOURS];

        Hindsight(Kingdom kingdom) {
            this.kingdom = kingdom;
        }

        int see(int newHour, int newPost, int newIs) {
            if (seen >= MOST_SEEN) {
                return FULL;
            }
            hour[seen] = newHour;
            post[seen] = newPost;
            is[seen] = newIs;
            seen++;
            return seen;
        }

        int needless() {
            int bits = 0;
            for (int e = 0; e < kingdom.events.events; e++) {
                kingdom.supposeEvents(kingdom.events, kingdom.events.everyBit() & ~(1 << e));
                if (comesOutSo()) {
                    bits |= 1 << e;
                }
            }
            return bits;
        }

        /** The PERSON is one that there is. */
        int sortsOf(int person) {
            int bits = 0;
            int own = kingdom.wall.sort[person];
            for (int sort = 0; sort < SORTS; sort++) {
                kingdom.wall.sort[person] = sort;
                kingdom.supposed.pass();
                if (comesOutSo()) {
                    bits |= 1 << sort;
                }
            }
            kingdom.wall.sort[person] = own;
            return bits;
        }

        /** The PERSON is one that there is. What each of the COLDS changes is kept for hourToAsk. */
        int coldsOf(int person) {
            int bits = 0;
            int own = kingdom.wall.cold[person];
            for (int cold = 1; cold <= MOST_COLD; cold++) {
                kingdom.wall.cold[person] = cold;
                kingdom.supposed.pass();
                System.arraycopy(kingdom.supposed.changes, 0, changesByCold[cold], 0, HOURS);
                if (comesOutSo()) {
                    bits |= 1 << cold;
                }
            }
            kingdom.wall.cold[person] = own;
            return bits;
        }

        int hourToAsk(int person) {
            int colds = coldsOf(person);
            int best = 0;
            int fewest = mostAlike(colds, 0);
            for (int h = 1; h < HOURS; h++) {
                int alike = mostAlike(colds, h);
                if (alike < fewest) {
                    best = h;
                    fewest = alike;
                }
            }
            return best;
        }

        private int mostAlike(int colds, int atHour) {
            int most = 0;
            for (int cold = 1; cold <= MOST_COLD; cold++) {
                if (!hasBit(colds, cold)) {
                    continue;
                }
                int alike = 0;
                for (int other = 1; other <= MOST_COLD; other++) {
                    if (hasBit(colds, other) && changesByCold[other][atHour] == changesByCold[cold][atHour]) {
                        alike++;
                    }
                }
                most = Math.max(most, alike);
            }
            return most;
        }

        private boolean comesOutSo() {
            for (int i = 0; i < seen; i++) {
                boolean isThere = post[i] < kingdom.wall.posts;
                if (!isThere || (kingdom.supposed.changes[hour[i]] >> post[i] & 1) != is[i]) {
                    return false;
                }
            }
            return true;
        }
    }

    /** Days by chance and by lots. */
    private static final class Chances {
        final Kingdom kingdom;
        final Events drawn = new Events();
        final long[] weights = new long[MOST_EVENTS + 1];
        int seed;

        Chances(Kingdom kingdom) {
            this.kingdom = kingdom;
        }

        /** In lowest terms, above (part 0) or below (part 1). */
        long fraction(int c, int post, int part) {
            int n = kingdom.events.events;
            weigh(c, n);
            long above = 0;
            for (int which = 0; which <= kingdom.events.everyBit(); which++) {
                int were = Integer.bitCount(which);
                if (were < weights.length && hasBit(kingdom.forgottenWith(which), post)) {
                    above += weights[were];
                }
            }
            // What is below is a power of two, so halving alone finds the lowest terms.
            long below = 1L << 4 * n;
            for (int halved = 0; halved < 64 && below > 1 && (above & 1) == 0; halved++) {
                above >>= 1;
                below >>= 1;
            }
            return part == 0 ? above : below;
        }

        /** What a choice of so many of n EVENTS weighs, in parts of 16 to the n. */
        private void weigh(int c, int n) {
            for (int were = 0; were <= n && were < weights.length; were++) {
                long weight = 1;
                for (int e = 0; e < n; e++) {
                    weight *= e < were ? c : SIXTEENTHS - c;
                }
                weights[were] = weight;
            }
        }

        Day dayByLots(int newSeed, int n) {
            seed = newSeed;
            drawn.events = 0;
            for (int e = 0; e < n; e++) {
                int kind = lotOf(Events.KINDS);
                int hour = lotOf(HOURS);
                int number = lotOf(Events.NUMBERS);
                drawn.add(kind, hour, number);
            }
            kingdom.supposeEvents(drawn, drawn.everyBit());
            return kingdom.supposed;
        }

        private int lotOf(int m) {
            seed = 1103515245 * seed + 12345;
            return m > 0 ? (seed >>> 16) % m : 0;
        }
    }

    /** SHEETS, and the latest of the FINDINGS about them. */
    private static final class Sheets {
        static final int SHEETS = 4;
        static final int FORMS = 3;
        static final int MOST_ITEMS = 60;
        static final int BYTES = 0;
        static final int SHORTS = 1;
        static final int LOST = -1;
        static final int NULL = 1;
        static final int INDEX = 2;
        static final int CAST = 3;
        static final int STORE = 4;
        static final int SIZE = 5;

        final int[] formOf = new int[SHEETS];
        final int[] lengths = new int[SHEETS];
        final int[][] items = new int[SHEETS][MOST_ITEMS];
        int latestFinding;

        Sheets() {
            Arrays.fill(formOf, LOST);
        }

        int make(int s, int form, int n) {
            if (!isBelow(s, SHEETS) || !isBelow(form, FORMS) || n > MOST_ITEMS) {
                return BAD;
            }
            if (n < 0) {
                return found(SIZE);
            }
            formOf[s] = form;
            lengths[s] = n;
            Arrays.fill(items[s], 0);
            return n;
        }

        int drop(int s) {
            int refusal = refusalOf(s);
            if (refusal != 0) {
                return refusal;
            }
            formOf[s] = LOST;
            return lengths[s];
        }

        int move(int s, int i, int t, int j, int n) {
            if (!isBelow(s, SHEETS) || !isBelow(t, SHEETS)) {
                return BAD;
            }
            if (formOf[s] == LOST || formOf[t] == LOST) {
                return found(NULL);
            }
            if (formOf[s] != formOf[t]) {
                return found(STORE);
            }
            if (!hasRoom(lengths[s], i, n) || !hasRoom(lengths[t], j, n)) {
                return found(INDEX);
            }
            System.arraycopy(items[s], i, items[t], j, n);
            return 1;
        }

        private static boolean hasRoom(int length, int from, int n) {
            return from >= 0 && n >= 0 && n <= length && from <= length - n;
        }

        /** 0 where the SHEET is there. */
        int refusalOf(int s) {
            if (!isBelow(s, SHEETS)) {
                return BAD;
            }
            return formOf[s] == LOST ? found(NULL) : 0;
        }

        /** 0 where the SHEET has this FORM and this item. */
        int refusalOfItem(int s, int form, int i) {
            if (!isBelow(s, SHEETS) || !isBelow(form, FORMS)) {
                return BAD;
            }
            if (formOf[s] == LOST) {
                return found(NULL);
            }
            if (formOf[s] != form) {
                return found(CAST);
            }
            return isBelow(i, lengths[s]) ? 0 : found(INDEX);
        }

        int lengthOf(int s) {
            return isBelow(s, SHEETS) ? lengths[s] : 0;
        }

        int item(int s, int i) {
            return isBelow(i, lengthOf(s)) ? items[s][i] : 0;
        }

        void put(int s, int i, int v) {
            if (!isBelow(i, lengthOf(s))) {
                return;
            }
            if (formOf[s] == BYTES) {
                items[s][i] = (byte) v;
            } else if (formOf[s] == SHORTS) {
                items[s][i] = (short) v;
            } else {
                items[s][i] = v;
            }
        }

        private int found(int number) {
            latestFinding = number;
            return -10 - number;
        }
    }
}
