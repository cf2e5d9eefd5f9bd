/** Each promise by answers worked out by hand. */
public final class PromiseTest {
    private static final int NONE = SneezeGuard.NONE, BAD = SneezeGuard.BAD, NOT = SneezeGuard.NOT, FULL = SneezeGuard.FULL;
    private static final int NULL = -11, INDEX = -12, CAST = -13, STORE = -14, SIZE = -15;
    private static final int LEAST = Integer.MIN_VALUE;
    private static final int[] FAR = {Integer.MIN_VALUE, -3, Integer.MAX_VALUE};

    private static final Check check = new Check();

    public static void main(String[] args) {
        constants();
        newObject();
        type();
        wipe();
        undo();
        fault();
        postAndPerson();
        event();
        back();
        read();
        atWalks();
        atSneezes();
        atColds();
        stood();
        changes();
        hearing();
        forgottenAndLongest();
        longestOfLikeOnes();
        allBusyQuiet();
        stroll();
        dust();
        hush();
        spare();
        seenAndForget();
        never();
        was();
        ask();
        chance();
        decades();
        sheetAndLose();
        layAndGet();
        copy();
        write();
        count();
        digest();
        plansLeaveNothingBehind();
        check.end("PromiseTest");
    }

    private static void due(String call, long got, long want) {
        check.due(call, got, want);
    }

    private static SneezeGuard guard(String posts, String people) {
        SneezeGuard x = new SneezeGuard();
        tell(x, 0, posts);
        tell(x, 1, people);
        return x;
    }

    private static void tell(SneezeGuard x, int text, String signs) {
        for (char sign : signs.toCharArray()) x.type(text, sign);
    }

    private static SneezeGuard retold(SneezeGuard x, String posts, String people) {
        x.wipe(0);
        x.wipe(1);
        tell(x, 0, posts);
        tell(x, 1, people);
        return x;
    }

    /** A general who walks up and down and is heard in every CELL by the one POST; he sneezes in HOURS 8 and 17. */
    private static SneezeGuard general() {
        return guard("50", "g0e9");
    }

    private static void constants() {
        due("NONE", SneezeGuard.NONE, -1);
        due("BAD", SneezeGuard.BAD, -2);
        due("NOT", SneezeGuard.NOT, -3);
        due("FULL", SneezeGuard.FULL, -4);
    }

    private static void newObject() {
        SneezeGuard x = new SneezeGuard();
        for (int what = 0; what <= 8; what++) due("1 count(" + what + ")", x.count(what), 0);
        for (int text = 0; text < 2; text++) due("1 fault(" + text + ")", x.fault(text), NONE);
        for (int hour = 0; hour < 24; hour++) due("1 changes(" + hour + ")", x.changes(hour), 0);
        for (int s = 0; s < 4; s++) due("1 lose(" + s + ")", x.lose(s), NULL);
        due("1 post(0, 0)", x.post(0, 0), BAD);
        due("1 person(0, 0)", x.person(0, 0), BAD);
        due("1 back()", x.back(), NOT);
    }

    private static void type() {
        SneezeGuard x = new SneezeGuard();
        for (int n : FAR) {
            due("2 type(" + n + ", 48)", x.type(n, 48), BAD);
            due("2 type(0, " + n + ")", x.type(0, n), BAD);
        }
        due("2 type(-1, 48)", x.type(-1, 48), BAD);
        due("2 type(2, 48)", x.type(2, 48), BAD);
        due("2 type(0, -1)", x.type(0, -1), BAD);
        due("2 type(0, 256)", x.type(0, 256), BAD);
        due("2 count(2)", x.count(2), 0);
        for (int i = 1; i <= 23; i++) due("2 type(0, ..)", x.type(0, i == 1 ? 255 : i == 2 ? 0 : 48), i);
        due("2 type(0, 0) where it is full", x.type(0, 0), FULL);
        due("2 type(0, 256) where it is full", x.type(0, 256), BAD);
        for (int i = 1; i <= 29; i++) due("2 type(1, 255)", x.type(1, 255), i);
        due("2 type(1, 255) where it is full", x.type(1, 255), FULL);
        due("2 count(2)", x.count(2), 23);
        due("2 count(3)", x.count(3), 29);
    }

    private static void wipe() {
        SneezeGuard x = guard("50;40", "g0e9");
        due("3 wipe(2)", x.wipe(2), BAD);
        due("3 wipe(-1)", x.wipe(-1), BAD);
        due("3 wipe(1)", x.wipe(1), 4);
        due("3 count(1)", x.count(1), 0);
        due("3 count(0)", x.count(0), 2);
        due("3 all()", x.all(), 0);
        due("3 wipe(0)", x.wipe(0), 5);
        due("3 wipe(0)", x.wipe(0), 0);
        due("3 longest(0)", x.longest(0), NONE);
    }

    private static void undo() {
        SneezeGuard x = guard("50", "g0e9");
        due("4 undo(2)", x.undo(2), BAD);
        due("4 undo(-1)", x.undo(-1), BAD);
        due("4 undo(0)", x.undo(0), 1);
        due("4 all() with a FAULT", x.all(), 0);
        tell(x, 0, "0");
        due("4 all() once more", x.all(), 2);
        due("4 undo(0)", x.undo(0), 1);
        due("4 undo(0)", x.undo(0), 0);
        due("4 undo(0)", x.undo(0), NOT);
        for (int left = 3; left >= 0; left--) due("4 undo(1)", x.undo(1), left);
        due("4 undo(1)", x.undo(1), NOT);
    }

    private static void faultOf(int text, String told, int want) {
        SneezeGuard x = new SneezeGuard();
        tell(x, text, told);
        due("5 fault(" + text + ") of " + told, x.fault(text), want);
        int things = want != NONE || told.isEmpty() ? 0 : told.split(";").length;
        due("5 count(" + text + ") of " + told, x.count(text), things);
        due("5 fault of the other text", x.fault(1 - text), NONE);
    }

    private static void fault() {
        String[] posts = {"", "00", "93", "00;93", "50;50;50;50;50;50;50;50"};
        for (String told : posts) faultOf(0, told, NONE);
        faultOf(0, "0", 1);
        faultOf(0, "00;", 3);
        faultOf(0, "00;9", 4);
        faultOf(0, "04", 1);
        faultOf(0, "x", 0);
        faultOf(0, ";", 0);
        faultOf(0, "/0", 0);
        faultOf(0, ":0", 0);
        faultOf(0, "0/", 1);
        faultOf(0, "000", 2);
        faultOf(0, "00,00", 2);
        faultOf(0, "00;00;;x", 6);
        faultOf(0, "00;0x;y", 4);
        faultOf(0, "\u00ff0", 0);
        String[] people = {"", "p0e1", "c9w9", "g5e5;p0w1", "c0e1;c0e1;c0e1;c0e1;c0e1;c0e1"};
        for (String told : people) faultOf(1, told, NONE);
        faultOf(1, "p", 1);
        faultOf(1, "p0", 2);
        faultOf(1, "p0e", 3);
        faultOf(1, "p0e1;", 5);
        faultOf(1, "q0e1", 0);
        faultOf(1, "P0e1", 0);
        faultOf(1, "pxe1", 1);
        faultOf(1, "p0n1", 2);
        faultOf(1, "p0e0", 3);
        faultOf(1, "p0e:", 3);
        faultOf(1, "p0e11", 4);
        faultOf(1, "p0e1;g0w9;;", 10);
        SneezeGuard x = new SneezeGuard();
        due("5 fault(2)", x.fault(2), BAD);
        due("5 fault(-1)", x.fault(-1), BAD);
    }

    private static void postAndPerson() {
        SneezeGuard x = guard("50;93", "p0e1;c9w9;g4e5");
        int[][] posts = {{5, 0}, {9, 3}};
        int[][] people = {{0, 0, 0, 1}, {1, 9, 1, 9}, {2, 4, 0, 5}};
        for (int q = 0; q < 2; q++) {
            for (int w = 0; w < 2; w++) due("6 post(" + q + ", " + w + ")", x.post(q, w), posts[q][w]);
        }
        for (int p = 0; p < 3; p++) {
            for (int w = 0; w < 4; w++) due("7 person(" + p + ", " + w + ")", x.person(p, w), people[p][w]);
        }
        for (int n : FAR) {
            due("6 post(" + n + ", 0)", x.post(n, 0), BAD);
            due("6 post(0, " + n + ")", x.post(0, n), BAD);
            due("7 person(" + n + ", 0)", x.person(n, 0), BAD);
            due("7 person(0, " + n + ")", x.person(0, n), BAD);
        }
        due("6 post(2, 0)", x.post(2, 0), BAD);
        due("6 post(-1, 0)", x.post(-1, 0), BAD);
        due("6 post(0, 2)", x.post(0, 2), BAD);
        due("6 post(0, -1)", x.post(0, -1), BAD);
        due("7 person(3, 0)", x.person(3, 0), BAD);
        due("7 person(-1, 0)", x.person(-1, 0), BAD);
        due("7 person(0, 4)", x.person(0, 4), BAD);
        due("7 person(0, -1)", x.person(0, -1), BAD);
        tell(x, 1, ";");
        due("7 person(0, 0) with a FAULT", x.person(0, 0), BAD);
    }

    private static void event() {
        SneezeGuard x = general();
        int[][] bad = {{3, 0, 0}, {-1, 0, 0}, {0, 24, 0}, {0, -1, 0}, {0, 0, 10}, {0, 0, -1}, {2, 0, 10}, {1, 0, -1}};
        for (int[] e : bad) due("8 event " + e[0] + " " + e[1] + " " + e[2], x.event(e[0], e[1], e[2]), BAD);
        for (int n : FAR) {
            due("8 event(" + n + ", 0, 0)", x.event(n, 0, 0), BAD);
            due("8 event(0, " + n + ", 0)", x.event(0, n, 0), BAD);
            due("8 event(0, 0, " + n + ")", x.event(0, 0, n), BAD);
        }
        due("8 count(4)", x.count(4), 0);
        due("8 event(1, 23, 9)", x.event(1, 23, 9), 1);
        due("8 event(0, 0, 9)", x.event(0, 0, 9), 2);
        due("8 all() by EVENTS that touch nobody", x.all(), 2);
        due("8 event(0, 3, 3)", x.event(0, 3, 3), 3);
        due("8 PEPPER changes(3)", x.changes(3), 1);
        due("8 PEPPER is gone by the next HOUR", x.changes(4), 0);
        due("8 event(1, 8, 0)", x.event(1, 8, 0), 4);
        due("8 a nose HELD changes(8)", x.changes(8), 0);
        due("8 event(2, 5, 0)", x.event(2, 5, 0), 5);
        due("8 FROST changes(5)", x.changes(5), 1);
        due("8 event(2, 8, 0)", x.event(2, 8, 0), 6);
        due("8 a nose HELD in a FROST", x.changes(8), 0);
        due("8 event(0, 8, 8)", x.event(0, 8, 8), 7);
        due("8 a nose HELD in PEPPER", x.changes(8), 0);
        due("8 event(2, 8, 0) twice", x.event(2, 8, 0), 8);
        due("8 event(2, 8, 0)", x.event(2, 8, 0), FULL);
        due("8 event(3, 8, 0) where it is full", x.event(3, 8, 0), BAD);
        due("8 count(4)", x.count(4), 8);
    }

    private static void back() {
        SneezeGuard x = general();
        due("9 back()", x.back(), NOT);
        x.event(2, 3, 0);
        x.event(1, 8, 0);
        due("9 changes(8)", x.changes(8), 0);
        due("9 back()", x.back(), 1);
        due("9 changes(8)", x.changes(8), 1);
        due("9 changes(3)", x.changes(3), 1);
        due("9 back()", x.back(), 0);
        due("9 changes(3)", x.changes(3), 0);
        due("9 back()", x.back(), NOT);
    }

    private static void lay(SneezeGuard x, int s, int form, int... values) {
        x.sheet(s, form, values.length);
        for (int i = 0; i < values.length; i++) x.lay(s, form, i, values[i]);
    }

    private static void read() {
        SneezeGuard x = general();
        due("10 read(-1)", x.read(-1), BAD);
        due("10 read(4)", x.read(4), BAD);
        due("10 count(8)", x.count(8), 0);
        due("10 read(0)", x.read(0), NULL);
        due("10 count(8)", x.count(8), 1);
        lay(x, 0, 0);
        due("10 read(0) of no items", x.read(0), 0);
        lay(x, 0, 2, 2, 3, 0, 1, 8, 0, 2, 5);
        due("10 read(0) of two and a bit", x.read(0), 2);
        due("10 changes(3)", x.changes(3), 1);
        due("10 changes(8)", x.changes(8), 0);
        due("10 changes(5)", x.changes(5), 0);
        lay(x, 1, 0, 0, 4, 4, 0, 24, 4, 2, 6, 0);
        due("10 read(1) as long as each may be", x.read(1), 1);
        due("10 changes(4)", x.changes(4), 1);
        due("10 changes(6)", x.changes(6), 0);
        lay(x, 1, 1, -1, 4, 4);
        due("10 read(1) of none that may be", x.read(1), 0);
        lay(x, 2, 1, 2, 0, 0, 2, 1, 0, 2, 2, 0, 2, 6, 0, 2, 7, 0, 2, 9, 0);
        due("10 read(2) as long as there is room", x.read(2), 5);
        due("10 count(4)", x.count(4), 8);
        due("10 changes(7)", x.changes(7), 1);
        due("10 changes(9)", x.changes(9), 0);
        due("10 read(2) where there is none", x.read(2), 0);
        due("10 get(2, 1, 0): the SHEET is as it was", x.get(2, 1, 0), 2);
    }

    private static void atWalks() {
        SneezeGuard x = guard("", "p3e9;p3w9;p9e9;p0w9");
        int[] up = {3, 4, 5, 6, 7, 8, 9, 8, 7, 6, 5, 4, 3, 2, 1, 0, 1, 2, 3, 4, 5, 6, 7, 8};
        int[] down = {3, 2, 1, 0, 1, 2, 3, 4, 5, 6, 7, 8, 9, 8, 7, 6, 5, 4, 3, 2, 1, 0, 1, 2};
        for (int h = 0; h < 24; h++) {
            due("11 at(" + h + ", 0, 0)", x.at(h, 0, 0), up[h]);
            due("11 at(" + h + ", 1, 0)", x.at(h, 1, 0), down[h]);
        }
        due("11 at(1, 2, 0): it turns at once", x.at(1, 2, 0), 8);
        due("11 at(1, 3, 0): it turns at once", x.at(1, 3, 0), 1);
        int[][] bad = {{24, 0, 0}, {-1, 0, 0}, {0, 4, 0}, {0, -1, 0}, {0, 0, 4}, {0, 0, -1}};
        for (int[] b : bad) due("11 at " + b[0] + " " + b[1] + " " + b[2], x.at(b[0], b[1], b[2]), BAD);
        for (int n : FAR) {
            due("11 at(" + n + ", 0, 0)", x.at(n, 0, 0), BAD);
            due("11 at(0, " + n + ", 0)", x.at(0, n, 0), BAD);
            due("11 at(0, 0, " + n + ")", x.at(0, 0, n), BAD);
        }
    }

    private static void atSneezes() {
        SneezeGuard x = guard("", "c0e4");
        int times = 0;
        for (int h = 0; h < 24; h++) {
            int sneezes = (h + 1) % 4 == 0 ? 1 : 0;
            times += sneezes;
            due("11 at(" + h + ", 0, 1)", x.at(h, 0, 1), sneezes);
            due("11 at(" + h + ", 0, 2)", x.at(h, 0, 2), times);
            due("11 at(" + h + ", 0, 3): alone nobody catches", x.at(h, 0, 3), 4);
        }
        x.event(0, 2, 2);
        x.event(0, 4, 2);
        x.event(1, 3, 0);
        due("11 at(2, 0, 1) in PEPPER", x.at(2, 0, 1), 1);
        due("11 at(4, 0, 1) beside PEPPER", x.at(4, 0, 1), 0);
        due("11 at(3, 0, 1) HELD", x.at(3, 0, 1), 0);
        due("11 at(23, 0, 2)", x.at(23, 0, 2), 6);
        x.event(2, 4, 7);
        due("11 at(4, 0, 1) in a FROST", x.at(4, 0, 1), 1);
    }

    private static void coldDue(String people, int[][] events, int[][] want) {
        SneezeGuard x = guard("", people);
        for (int[] e : events) x.event(e[0], e[1], e[2]);
        for (int[] w : want) {
            due("11 cold behind HOUR " + w[0] + " of " + w[1] + " of " + people, x.at(w[0], w[1], 3), w[2]);
        }
    }

    private static void atColds() {
        // Two who go together, by which both catch it each time: 9, 8 (hour 8), 7 (15), 6 (20), 5 (23).
        coldDue("g0e9;p0e9", new int[][] {},
            new int[][] {{7, 0, 9}, {8, 0, 8}, {8, 1, 8}, {14, 1, 8}, {15, 1, 7}, {20, 0, 6}, {23, 1, 5}});
        // By several by 1 all the same.
        coldDue("c0e9;c0e9;c0e9", new int[][] {}, new int[][] {{8, 0, 8}, {8, 1, 8}, {8, 2, 8}});
        // Not by one's own.
        coldDue("c0e9;c0e9", new int[][] {{1, 8, 1}}, new int[][] {{8, 0, 9}, {8, 1, 8}});
        // One whose nose is held catches it too.
        coldDue("c0e9;c0e5", new int[][] {{1, 4, 0}}, new int[][] {{3, 0, 9}, {4, 0, 8}, {4, 1, 5}});
        // 1 at least.
        coldDue("c0e1;c0e2", new int[][] {}, new int[][] {{0, 0, 1}, {0, 1, 1}, {23, 0, 1}, {23, 1, 1}});
        // In one CELL, not beside it, nor going by each other.
        coldDue("c3e1;c4w9", new int[][] {}, new int[][] {{0, 1, 9}, {1, 1, 9}});
        coldDue("c3e1;c5w9", new int[][] {}, new int[][] {{0, 1, 9}, {1, 1, 8}, {2, 1, 8}});
        // From the next HOUR on: the one who catches it in HOUR 1 (cold 3 becomes 2) sneezes in 3, not in 1.
        SneezeGuard x = guard("", "c3e1;c5w3");
        due("11 at(1, 1, 1)", x.at(1, 1, 1), 0);
        due("11 at(2, 1, 1)", x.at(2, 1, 1), 0);
        due("11 at(3, 1, 1)", x.at(3, 1, 1), 1);
    }

    private static void stood() {
        SneezeGuard x = general();
        int[] stands = {1, 2, 3, 4, 5, 6, 7, 8, 0, 1, 2, 3, 4, 5, 6, 7, 8, 0, 1, 2, 3, 4, 5, 6};
        for (int h = 0; h < 24; h++) {
            due("12 stood(" + h + ", 0, 0)", x.stood(h, 0, 0), stands[h]);
            due("12 stood(" + h + ", 0, 1)", x.stood(h, 0, 1), h < 8 ? 0 : h < 17 ? 1 : 2);
            due("12 stood(" + h + ", 0, 2)", x.stood(h, 0, 2), h == 8 || h == 17 ? 0 : NONE);
        }
        int[][] bad = {{24, 0, 0}, {-1, 0, 0}, {0, 1, 0}, {0, -1, 0}, {0, 0, 3}, {0, 0, -1}};
        for (int[] b : bad) due("12 stood " + b[0] + " " + b[1] + " " + b[2], x.stood(b[0], b[1], b[2]), BAD);
        for (int n : FAR) {
            due("12 stood(" + n + ", 0, 0)", x.stood(n, 0, 0), BAD);
            due("12 stood(0, " + n + ", 0)", x.stood(0, n, 0), BAD);
            due("12 stood(0, 0, " + n + ")", x.stood(0, 0, n), BAD);
        }
        retold(x, "00", "p9e9;p0e1;g0e1");
        due("12 stood(0, 0, 0) changed in HOUR 0", x.stood(0, 0, 0), 0);
        due("12 stood(0, 0, 2): by the least", x.stood(0, 0, 2), 1);
        due("12 stood(0, 0, 1): once, however many it hears", x.stood(0, 0, 1), 1);
        due("12 stood(3, 0, 2)", x.stood(3, 0, 2), 2);
    }

    private static void changes() {
        SneezeGuard x = guard("50;93;00", "g0e9");
        // HOUR 8 in CELL 8: to 5 are 3 (7 - 3 >= 0), to 9 is 1 (6 >= 3), to 0 are 8 (-1).
        due("13 changes(8)", x.changes(8), 3);
        // HOUR 17 in CELL 1: to 5 are 4, to 9 are 8, to 0 is 1.
        due("13 changes(17)", x.changes(17), 5);
        due("13 changes(0)", x.changes(0), 0);
        due("13 changes(23)", x.changes(23), 0);
        due("13 changes(24)", x.changes(24), BAD);
        due("13 changes(-1)", x.changes(-1), BAD);
        for (int n : FAR) due("13 changes(" + n + ")", x.changes(n), BAD);
        // Two POSTS by two PEOPLE in one HOUR.
        retold(x, "00;90", "p0e1;p9w1");
        due("13 changes(0)", x.changes(0), 3);
        due("13 stood(0, 0, 2)", x.stood(0, 0, 2), 0);
        due("13 stood(0, 1, 2)", x.stood(0, 1, 2), 1);
    }

    /** Each sort is heard as far as it is LOUD less how HARD, to either side, and no farther. */
    private static void hearing() {
        String sorts = "pcg";
        int[] loud = {2, 4, 7};
        for (int sort = 0; sort < 3; sort++) {
            for (int hard = 0; hard < 4; hard++) {
                for (int cell = 0; cell < 10; cell++) {
                    SneezeGuard x = guard(cell + "" + hard + ";0" + hard, sorts.charAt(sort) + "4e1");
                    boolean hears = Math.abs(cell - 4) <= loud[sort] - hard;
                    boolean zeroHears = 4 <= loud[sort] - hard;
                    due("13 changes(0) at " + cell + " hard " + hard + " by " + sorts.charAt(sort), x.changes(0),
                        (hears ? 1 : 0) + (zeroHears ? 2 : 0));
                }
            }
        }
    }

    private static void forgottenAndLongest() {
        SneezeGuard x = general();
        due("14 forgotten()", x.forgotten(), 0);
        due("15 longest(0)", x.longest(0), 7);
        due("15 longest(1)", x.longest(1), 0);
        due("15 longest(2)", x.longest(2), 8);
        x.event(1, 8, 0);
        due("14 forgotten(): it stood 17", x.forgotten(), 1);
        due("15 longest(0)", x.longest(0), 16);
        due("15 longest(2)", x.longest(2), 17);
        x.event(2, 11, 0);
        due("14 forgotten(): it stood 11", x.forgotten(), 0);
        due("15 longest(2)", x.longest(2), 11);
        x.back();
        x.event(2, 12, 0);
        due("14 forgotten(): it stood 12", x.forgotten(), 1);
        due("15 longest(0)", x.longest(0), 11);
        due("15 longest(2)", x.longest(2), 12);
        due("15 longest(3)", x.longest(3), BAD);
        due("15 longest(-1)", x.longest(-1), BAD);
        for (int n : FAR) due("15 longest(" + n + ")", x.longest(n), BAD);
        x.wipe(0);
        for (int what = 0; what < 3; what++) due("15 longest(" + what + ") of no POSTS", x.longest(what), NONE);
        due("14 forgotten() of no POSTS", x.forgotten(), 0);
    }

    private static void longestOfLikeOnes() {
        // Of POSTS that stand as long the least, as bits all.
        SneezeGuard x = guard("03;13;93", "");
        due("15 longest(0)", x.longest(0), 23);
        due("15 longest(1)", x.longest(1), 0);
        due("15 longest(2)", x.longest(2), 24);
        due("14 forgotten()", x.forgotten(), 7);
        // Always changed: it stood for 0 behind each HOUR.
        retold(x, "50", "g0e1");
        due("15 longest(0)", x.longest(0), 0);
        due("15 longest(1)", x.longest(1), 0);
        due("15 longest(2)", x.longest(2), 0);
        // Both stand 8 behind HOURS 7 and 16: the least HOUR, the least POST.
        retold(x, "50;50", "g0e9");
        due("15 longest(0)", x.longest(0), 7);
        due("15 longest(1)", x.longest(1), 0);
        // The farther one is heard in 17 alone, so it stands longest.
        retold(x, "50;00", "g0e9");
        due("15 longest(0)", x.longest(0), 16);
        due("15 longest(1)", x.longest(1), 1);
        due("15 longest(2)", x.longest(2), 17);
        due("14 forgotten()", x.forgotten(), 2);
    }

    private static void allBusyQuiet() {
        SneezeGuard x = guard("50;93;00", "g0e9");
        due("16 all()", x.all(), 4);
        due("17 busy()", x.busy(), 0);
        due("18 quiet()", x.quiet(), 0);
        x.event(1, 8, 0);
        x.event(1, 17, 0);
        due("16 all()", x.all(), 0);
        due("17 busy(): nobody", x.busy(), NONE);
        due("18 quiet(): who never sneezes", x.quiet(), 1);
        // Both sneeze in 8 and 17: the least has what both could change, the greater what is left.
        x = guard("50;00", "c0e9;g9w9");
        // HOUR 8: cells 8 and 1: 0 has POST 0 (4 - 3), 1 has POST 1. HOUR 17: cells 1 and 8: 0 has both (4 - 4, 4 - 1).
        due("16 all()", x.all(), 4);
        due("17 busy()", x.busy(), 0);
        due("13 stood(8, 1, 2)", x.stood(8, 1, 2), 1);
        x.event(1, 17, 0);
        // Now 1 has POST 0 in 17 (7 - 3), none hears for POST 1 (7 - 8): 1 and 2.
        due("17 busy()", x.busy(), 1);
        due("16 all()", x.all(), 3);
        x.event(1, 8, 1);
        // 1 and 1: of like ones the least.
        due("17 busy() of like ones", x.busy(), 0);
        x.event(1, 8, 0);
        due("17 busy()", x.busy(), 1);
        due("18 quiet()", x.quiet(), 1);
        // One that sneezes unheard is not quiet.
        retold(x, "03", "p9e9;p0e9");
        due("18 quiet()", x.quiet(), 1);
        due("17 busy()", x.busy(), NONE);
        // A sneeze in HOUR 0 counts: without it the two would have changed as many.
        x = guard("00;90", "p0e9;p9w9");
        x.event(0, 0, 9);
        due("17 busy()", x.busy(), 1);
        x = general();
        x.event(1, 8, 0);
        x.event(1, 17, 0);
        due("18 quiet()", x.quiet(), 1);
        x.event(2, 0, 0);
        due("18 quiet(): a sneeze in HOUR 0", x.quiet(), 0);
        // Who is told no more has changed nothing.
        x = guard("50", "p0e9;g9w9");
        due("17 busy()", x.busy(), 1);
        due("12 stood(8, 0, 2)", x.stood(8, 0, 2), 1);
        retold(x, "50", "p0e9");
        due("17 busy()", x.busy(), NONE);
        due("12 stood(8, 0, 2)", x.stood(8, 0, 2), NONE);
        due("18 quiet() of none", new SneezeGuard().quiet(), 0);
        due("17 busy() of none", new SneezeGuard().busy(), NONE);
    }

    private static void stroll() {
        SneezeGuard x = guard("02", "p5w1");
        // Only in CELL 0 is she heard; from 9 she comes by in HOUR 9, and it stands 14 behind that.
        due("19 stroll(0, 0)", x.stroll(0, 0), 9);
        due("19 stroll(0, 1)", x.stroll(0, 1), 14);
        due("19 longest(2) as it is: she comes by in 5 and 23", x.longest(2), 17);
        due("19 person(0, 1) as told", x.person(0, 1), 5);
        // All alike: the least.
        x = general();
        due("19 stroll(0, 0)", x.stroll(0, 0), 0);
        due("19 stroll(0, 1)", x.stroll(0, 1), 8);
        due("19 stroll(1, 0)", x.stroll(1, 0), BAD);
        due("19 stroll(-1, 0)", x.stroll(-1, 0), BAD);
        due("19 stroll(0, 2)", x.stroll(0, 2), BAD);
        due("19 stroll(0, -1)", x.stroll(0, -1), BAD);
        for (int n : FAR) due("19 stroll(" + n + ", 0)", x.stroll(n, 0), BAD);
        due("20 dust(3, 0)", x.dust(3, 0), 3);
        x.wipe(0);
        due("19 stroll(0, 0) of no POSTS", x.stroll(0, 0), 0);
        due("19 stroll(0, 1) of no POSTS", x.stroll(0, 1), 0);
        due("19 stroll(1, 1) of no POSTS", x.stroll(1, 1), BAD);
    }

    private static void dust() {
        SneezeGuard x = general();
        due("20 dust(3, 0)", x.dust(3, 0), 3);
        due("20 dust(3, 1)", x.dust(3, 1), 3);
        due("20 dust(8, 0): no better than it is", x.dust(8, 0), 0);
        due("20 dust(8, 1)", x.dust(8, 1), 2);
        due("20 all() as it is", x.all(), 2);
        for (int i = 0; i < 8; i++) x.event(0, 3, 0);
        due("20 dust(3, 0) where EVENTS are full", x.dust(3, 0), 3);
        due("20 dust(3, 1) where EVENTS are full", x.dust(3, 1), 3);
        due("20 changes(3) as it is", x.changes(3), 0);
        x.back();
        x.event(0, 3, 3);
        due("20 dust(3, 0): the PEPPER told stays", x.dust(3, 0), 0);
        due("20 dust(3, 1)", x.dust(3, 1), 3);
        due("20 dust(24, 0)", x.dust(24, 0), BAD);
        due("20 dust(-1, 0)", x.dust(-1, 0), BAD);
        due("20 dust(0, 2)", x.dust(0, 2), BAD);
        due("20 dust(0, -1)", x.dust(0, -1), BAD);
        for (int n : FAR) due("20 dust(" + n + ", 0)", x.dust(n, 0), BAD);
        due("20 dust(23, 0) of none", new SneezeGuard().dust(23, 0), 0);
        due("20 dust(23, 1) of none", new SneezeGuard().dust(23, 1), 0);
    }

    private static void hush() {
        // In HOUR 8 the princess in CELL 8 is not heard in 5, the general in CELL 1 is.
        SneezeGuard x = guard("50", "p0e9;g9w9");
        due("21 hush(8, 0)", x.hush(8, 0), 1);
        due("21 hush(8, 1)", x.hush(8, 1), 1);
        due("21 hush(3, 0): no better than it is", x.hush(3, 0), 0);
        due("21 hush(3, 1)", x.hush(3, 1), 2);
        due("21 all() as it is", x.all(), 2);
        for (int i = 0; i < 8; i++) x.event(1, 17, 1);
        due("21 hush(8, 0) where EVENTS are full", x.hush(8, 0), 1);
        due("21 hush(8, 1) where EVENTS are full", x.hush(8, 1), 0);
        due("21 hush(17, 1): the nose HELD stays so", x.hush(17, 1), 1);
        due("21 hush(24, 0)", x.hush(24, 0), BAD);
        due("21 hush(-1, 0)", x.hush(-1, 0), BAD);
        due("21 hush(0, 2)", x.hush(0, 2), BAD);
        due("21 hush(0, -1)", x.hush(0, -1), BAD);
        for (int n : FAR) due("21 hush(" + n + ", 1)", x.hush(n, 1), BAD);
        x.wipe(1);
        due("21 hush(0, 0) of no PEOPLE", x.hush(0, 0), NONE);
        due("21 hush(0, 1) of no PEOPLE", x.hush(0, 1), NONE);
        due("21 hush(24, 1) of no PEOPLE", x.hush(24, 1), BAD);
    }

    private static void spareDue(SneezeGuard x, int howMany, int first, int second) {
        due("22 spare(-1)", x.spare(NONE), howMany);
        due("22 spare(0)", x.spare(0), first);
        due("22 spare(1)", x.spare(1), second);
    }

    private static void spare() {
        SneezeGuard x = general();
        spareDue(x, 0, NONE, NONE);
        x.event(0, 3, 9);
        x.event(1, 8, 0);
        spareDue(x, 1, 1, NONE);
        x.event(1, 17, 0);
        spareDue(x, 2, 1, 2);
        due("22 forgotten() as it is", x.forgotten(), 1);
        x.event(1, 17, 0);
        spareDue(x, NONE, NONE, NONE);
        x.event(2, 11, 0);
        // Stood 11 to HOUR 10, then 12 from there on: but for both who hold it in 17, and no fewer.
        spareDue(x, 2, 2, 3);
        x.event(2, 20, 0);
        spareDue(x, 0, NONE, NONE);
        due("22 spare(2)", x.spare(2), BAD);
        due("22 spare(-2)", x.spare(-2), BAD);
        for (int n : FAR) due("22 spare(" + n + ")", x.spare(n), BAD);
        // Without EVENTS nothing can be spared.
        spareDue(guard("50", ""), NONE, NONE, NONE);
        spareDue(new SneezeGuard(), 0, NONE, NONE);
        x = general();
        x.event(1, 8, 0);
        x.event(1, 17, 0);
        spareDue(x, 2, 0, 1);
        // Of like ones the least: the least row, not the first found to stand shortest.
        x = general();
        x.event(1, 8, 0);
        x.event(1, 17, 0);
        x.event(2, 11, 0);
        // Stands 11 to HOUR 10, changed in 11, 12 behind HOUR 23.
        spareDue(x, 1, 1, NONE);
        x.back();
        x.event(2, 12, 0);
        // Stands 12 to HOUR 11, changed in 12, 11 behind HOUR 23.
        spareDue(x, 1, 0, NONE);
    }

    private static void seenAndForget() {
        SneezeGuard x = general();
        int[][] bad = {{24, 0, 0}, {-1, 0, 0}, {0, 8, 0}, {0, -1, 0}, {0, 0, 2}, {0, 0, -1}};
        for (int[] b : bad) due("23 seen " + b[0] + " " + b[1] + " " + b[2], x.seen(b[0], b[1], b[2]), BAD);
        for (int n : FAR) {
            due("23 seen(" + n + ", 0, 0)", x.seen(n, 0, 0), BAD);
            due("23 seen(0, " + n + ", 0)", x.seen(0, n, 0), BAD);
            due("23 seen(0, 0, " + n + ")", x.seen(0, 0, n), BAD);
        }
        due("24 forget()", x.forget(), 0);
        for (int i = 1; i <= 8; i++) due("23 seen(23, 7, 1)", x.seen(23, i - 1, i % 2), i);
        due("23 seen(0, 0, 0)", x.seen(0, 0, 0), FULL);
        due("23 seen(24, 0, 0) where it is full", x.seen(24, 0, 0), BAD);
        due("23 count(7)", x.count(7), 8);
        due("24 forget()", x.forget(), 8);
        due("24 count(7)", x.count(7), 0);
        due("24 forget()", x.forget(), 0);
        due("23 seen(0, 0, 0)", x.seen(0, 0, 0), 1);
    }

    private static void never() {
        SneezeGuard x = general();
        due("25 never() of no EVENTS", x.never(), 0);
        x.event(2, 3, 0);
        x.event(1, 8, 0);
        due("25 never() where nothing was SEEN", x.never(), 3);
        x.seen(3, 0, 0);
        due("25 never(): no FROST", x.never(), 1);
        x.seen(8, 0, 1);
        due("25 never(): both were not", x.never(), 0);
        x.forget();
        x.seen(8, 0, 1);
        due("25 never(): no nose HELD", x.never(), 2);
        x.seen(3, 0, 1);
        due("25 never()", x.never(), 2);
        x.forget();
        x.seen(0, 1, 0);
        due("25 never(): of a POST that there is not", x.never(), 0);
        x.forget();
        x.seen(0, 1, 1);
        due("25 never(): of a POST that there is not", x.never(), 0);
        due("25 changes(3) as it is", x.changes(3), 1);
    }

    private static void was() {
        SneezeGuard x = general();
        due("26 was(0, 0) where nothing was SEEN", x.was(0, 0), 7);
        due("26 was(0, 1) where nothing was SEEN", x.was(0, 1), 1022);
        x.seen(8, 0, 1);
        due("26 was(0, 0): c or g", x.was(0, 0), 6);
        due("26 was(0, 1): 1, 3 or 9", x.was(0, 1), 2 + 8 + 512);
        x.seen(2, 0, 0);
        due("26 was(0, 1): 9", x.was(0, 1), 512);
        due("26 person(0, 3) as told", x.person(0, 3), 9);
        x.seen(0, 0, 1);
        due("26 was(0, 1): none", x.was(0, 1), 0);
        due("26 was(0, 0): none", x.was(0, 0), 0);
        x.forget();
        x.seen(8, 0, 0);
        due("26 was(0, 0): p", x.was(0, 0), 1);
        x.seen(8, 7, 0);
        due("26 was(0, 0): of a POST that there is not", x.was(0, 0), 0);
        due("26 was(1, 0)", x.was(1, 0), BAD);
        due("26 was(-1, 0)", x.was(-1, 0), BAD);
        due("26 was(0, 2)", x.was(0, 2), BAD);
        due("26 was(0, -1)", x.was(0, -1), BAD);
        for (int n : FAR) due("26 was(" + n + ", 0)", x.was(n, 0), BAD);
    }

    private static void ask() {
        SneezeGuard x = general();
        // By HOUR 5 the COLDS 1, 2, 3, 6 are told from 4, 5, 7, 8, 9: 5 at most; no HOUR ahead does better.
        due("27 ask(0)", x.ask(0), 5);
        x.seen(5, 0, 0);
        // 4, 5, 7, 8, 9 are left: HOUR 7 tells 4 and 8 from 5, 7 and 9.
        due("27 ask(0)", x.ask(0), 7);
        x.seen(7, 0, 0);
        // 5, 7, 9: each HOUR leaves two of them alike, the first is HOUR 4.
        due("27 ask(0)", x.ask(0), 4);
        x.seen(4, 0, 1);
        due("27 ask(0): 5 alone is left", x.ask(0), 0);
        x.seen(4, 0, 0);
        due("27 ask(0): none is left", x.ask(0), 0);
        // 1 and 2 are left: HOUR 0 tells them, HOUR 1 does not.
        x.forget();
        x.seen(1, 0, 1);
        due("27 ask(0)", x.ask(0), 0);
        // 2 and 4 are left: HOUR 1 tells them.
        x.forget();
        x.seen(7, 0, 1);
        x.seen(3, 0, 1);
        x.seen(0, 0, 0);
        due("27 ask(0)", x.ask(0), 1);
        // 8 and 9 are left.
        x.forget();
        for (int hour = 3; hour < 7; hour++) x.seen(hour, 0, 0);
        due("27 ask(0)", x.ask(0), 7);
        due("27 ask(1)", x.ask(1), BAD);
        due("27 ask(-1)", x.ask(-1), BAD);
        for (int n : FAR) due("27 ask(" + n + ")", x.ask(n), BAD);
        x.wipe(0);
        x.forget();
        due("27 ask(0) of no POSTS", x.ask(0), 0);
    }

    private static void chanceDue(SneezeGuard x, int c, long above, long below) {
        due("28 chance(" + c + ", 0, 0)", x.chance(c, 0, 0), above);
        due("28 chance(" + c + ", 0, 1)", x.chance(c, 0, 1), below);
    }

    private static void chance() {
        SneezeGuard x = general();
        chanceDue(x, 8, 0, 1);
        x.event(1, 8, 0);
        chanceDue(x, 0, 0, 1);
        chanceDue(x, 4, 1, 4);
        chanceDue(x, 6, 3, 8);
        chanceDue(x, 15, 15, 16);
        chanceDue(x, 16, 1, 1);
        due("28 forgotten() as it is", x.forgotten(), 1);
        x.event(1, 8, 0);
        chanceDue(x, 4, 7, 16);
        x.back();
        x.event(2, 12, 0);
        // It stands 12 to HOUR 11 all the same, and the FROST helps nothing.
        chanceDue(x, 4, 1, 4);
        x.back();
        x.event(2, 11, 0);
        // Only where the nose is HELD and there is no FROST: 4 by 12 of 256.
        chanceDue(x, 4, 3, 16);
        x.back();
        for (int i = 0; i < 7; i++) x.event(1, 8, 0);
        chanceDue(x, 1, 1732076671L, 4294967296L);
        chanceDue(x, 16, 1, 1);
        chanceDue(x, 0, 0, 1);
        chanceDue(guard("50", ""), 7, 1, 1);
        long bad = Long.MIN_VALUE + 2;
        due("28 chance(17, 0, 0)", x.chance(17, 0, 0), bad);
        due("28 chance(-1, 0, 0)", x.chance(-1, 0, 0), bad);
        due("28 chance(0, 1, 0)", x.chance(0, 1, 0), bad);
        due("28 chance(0, -1, 0)", x.chance(0, -1, 0), bad);
        due("28 chance(0, 0, 2)", x.chance(0, 0, 2), bad);
        due("28 chance(0, 0, -1)", x.chance(0, 0, -1), bad);
        for (int n : FAR) due("28 chance(" + n + ", 0, 0)", x.chance(n, 0, 0), bad);
    }

    private static void decades() {
        SneezeGuard x = general();
        x.event(2, 3, 0);
        due("29 decades(7, 0, 0): in place of those told", x.decades(7, 0, 0), 2);
        // Seed 1148 and -748 draw kind 1, HOUR 8, number 0 at first; 771 draws a FROST in HOUR 3.
        due("29 decades(1148, 1, 0)", x.decades(1148, 1, 0), 1);
        due("29 decades(1148, 1, 1)", x.decades(1148, 1, 1), 1);
        due("29 decades(-748, 1, 0)", x.decades(-748, 1, 0), 1);
        due("29 decades(771, 1, 0)", x.decades(771, 1, 0), 3);
        due("29 decades(771, 1, 1)", x.decades(771, 1, 1), 0);
        // 20847: the nose HELD in 8, then a FROST in HOUR 12.
        due("29 decades(20847, 2, 0)", x.decades(20847, 2, 0), 2);
        due("29 decades(20847, 2, 1)", x.decades(20847, 2, 1), 1);
        // 7 draws PEPPER in HOUR 14, CELL 8 and 5; in 11, CELL 3; a nose (1) in 5; FROST in 10; a nose (4) in 1.
        // He is in CELL 4 in HOUR 14 and in 7 in HOUR 11: the FROST alone adds.
        due("29 decades(7, 6, 0)", x.decades(7, 6, 0), 3);
        due("29 decades(7, 4, 0)", x.decades(7, 4, 0), 2);
        due("29 changes(10) as it is", x.changes(10), 0);
        due("29 changes(3) as it is", x.changes(3), 1);
        // Then PEPPER in 4, CELL 0, where he is not, and a FROST in 15.
        due("29 decades(7, 7, 0)", x.decades(7, 7, 0), 3);
        due("29 decades(7, 8, 0)", x.decades(7, 8, 0), 4);
        due("29 decades(0, 9, 0)", x.decades(0, 9, 0), BAD);
        due("29 decades(0, -1, 0)", x.decades(0, -1, 0), BAD);
        due("29 decades(0, 0, 2)", x.decades(0, 0, 2), BAD);
        due("29 decades(0, 0, -1)", x.decades(0, 0, -1), BAD);
        for (int n : FAR) due("29 decades(0, " + n + ", 0)", x.decades(0, n, 0), BAD);
    }

    private static void sheetAndLose() {
        SneezeGuard x = new SneezeGuard();
        int[][] bad = {{4, 0, 0}, {-1, 0, 0}, {0, 3, 0}, {0, -1, 0}, {0, 0, 61}, {4, 0, -1}, {0, 3, -1}};
        for (int[] b : bad) due("30 sheet " + b[0] + " " + b[1] + " " + b[2], x.sheet(b[0], b[1], b[2]), BAD);
        due("30 count(8)", x.count(8), 0);
        due("30 sheet(0, 0, -1)", x.sheet(0, 0, -1), SIZE);
        due("30 count(8)", x.count(8), 5);
        due("30 sheet(0, 0, least)", x.sheet(0, 0, LEAST), SIZE);
        due("31 lose(0): it is not there by that", x.lose(0), NULL);
        due("30 sheet(0, 2, 60)", x.sheet(0, 2, 60), 60);
        for (int i = 0; i < 60; i++) due("30 get(0, 2, " + i + ")", x.get(0, 2, i), 0);
        x.lay(0, 2, 59, 7);
        due("30 sheet(0, 2, 61)", x.sheet(0, 2, 61), BAD);
        due("30 sheet(0, 2, -5)", x.sheet(0, 2, -5), SIZE);
        due("30 get(0, 2, 59): as it was", x.get(0, 2, 59), 7);
        due("30 sheet(0, 2, 60)", x.sheet(0, 2, 60), 60);
        due("30 get(0, 2, 59): 0 in a new row", x.get(0, 2, 59), 0);
        due("30 sheet(3, 1, 0)", x.sheet(3, 1, 0), 0);
        due("30 get(3, 1, 0)", x.get(3, 1, 0), LEAST);
        due("30 count(8)", x.count(8), 2);
        due("31 lose(4)", x.lose(4), BAD);
        due("31 lose(-1)", x.lose(-1), BAD);
        due("31 lose(0)", x.lose(0), 60);
        due("31 lose(0)", x.lose(0), NULL);
        due("31 count(8)", x.count(8), 1);
        due("31 lose(3)", x.lose(3), 0);
        due("31 get(0, 2, 0)", x.get(0, 2, 0), LEAST);
        x.sheet(0, 2, 5);
        due("31 get(0, 2, 0): 0 in a new row", x.get(0, 2, 0), 0);
    }

    private static void layAndGet() {
        SneezeGuard x = new SneezeGuard();
        due("32 lay(0, 0, 0, 1)", x.lay(0, 0, 0, 1), NULL);
        due("32 count(8)", x.count(8), 1);
        for (int form = 0; form < 3; form++) x.sheet(form, form, 3);
        int[] told = {0, 127, 128, 255, 256, -1, -128, -129, 32767, 32768, 65535, 65536, LEAST, Integer.MAX_VALUE};
        for (int v : told) {
            for (int form = 0; form < 3; form++) due("32 lay", x.lay(form, form, 2, v), 1);
            due("33 get(0, 0, 2) of " + v, x.get(0, 0, 2), (byte) v);
            due("33 get(1, 1, 2) of " + v, x.get(1, 1, 2), (short) v);
            due("33 get(2, 2, 2) of " + v, x.get(2, 2, 2), v);
        }
        due("33 get(0, 0, 1): the others as they were", x.get(0, 0, 1), 0);
        int[][] bad = {{4, 0, 0}, {-1, 0, 0}, {0, 3, 0}, {0, -1, 0}, {3, 3, 0}};
        for (int[] b : bad) {
            due("32 lay " + b[0] + " " + b[1], x.lay(b[0], b[1], b[2], 1), BAD);
            due("33 get " + b[0] + " " + b[1], x.get(b[0], b[1], b[2]), LEAST);
        }
        due("33 count(8): BAD is no FINDING", x.count(8), 1);
        due("32 lay(0, 1, 9, 1)", x.lay(0, 1, 9, 1), CAST);
        due("32 count(8)", x.count(8), 3);
        due("32 lay(0, 0, 3, 1)", x.lay(0, 0, 3, 1), INDEX);
        due("32 count(8)", x.count(8), 2);
        due("32 lay(0, 0, -1, 1)", x.lay(0, 0, -1, 1), INDEX);
        due("32 lay(3, 1, 9, 1)", x.lay(3, 1, 9, 1), NULL);
        due("33 get(0, 2, 9)", x.get(0, 2, 9), LEAST);
        due("33 count(8): CAST", x.count(8), 3);
        due("33 get(0, 0, -1)", x.get(0, 0, -1), LEAST);
        due("33 count(8): INDEX", x.count(8), 2);
        due("33 get(3, 0, -1)", x.get(3, 0, -1), LEAST);
        due("33 count(8): NULL", x.count(8), 1);
        due("33 get(0, 0, most)", x.get(0, 0, Integer.MAX_VALUE), LEAST);
        due("33 count(8): INDEX", x.count(8), 2);
        due("33 get(0, 0, 0)", x.get(0, 0, 0), 0);
        due("33 count(8): it stays", x.count(8), 2);
    }

    private static void sheetDue(SneezeGuard x, int s, int form, int... want) {
        for (int i = 0; i < want.length; i++) due("34 item " + i + " of " + s, x.get(s, form, i), want[i]);
    }

    private static void copy() {
        SneezeGuard x = new SneezeGuard();
        lay(x, 0, 1, 1, 2, 3, 4, 5);
        lay(x, 1, 1, 10, 20, 30);
        lay(x, 2, 2, 7, 8, 9);
        due("34 copy(0, 1, 1, 0, 2)", x.copy(0, 1, 1, 0, 2), 1);
        sheetDue(x, 1, 1, 2, 3, 30);
        sheetDue(x, 0, 1, 1, 2, 3, 4, 5);
        due("34 copy(0, 0, 0, 1, 4): to itself, on", x.copy(0, 0, 0, 1, 4), 1);
        sheetDue(x, 0, 1, 1, 1, 2, 3, 4);
        due("34 copy(0, 1, 0, 0, 4): to itself, back", x.copy(0, 1, 0, 0, 4), 1);
        sheetDue(x, 0, 1, 1, 2, 3, 4, 4);
        due("34 copy(0, 0, 0, 0, 5)", x.copy(0, 0, 0, 0, 5), 1);
        due("34 copy(0, 5, 1, 3, 0): none, at the ends", x.copy(0, 5, 1, 3, 0), 1);
        due("34 count(8)", x.count(8), 0);
        int[][] index = {{6, 0, 0}, {0, 4, 0}, {-1, 0, 1}, {0, -1, 1}, {0, 0, -1}, {0, 0, 4}, {4, 0, 2}, {0, 2, 2},
            {Integer.MAX_VALUE, 0, 1}, {0, Integer.MAX_VALUE, 1}, {1, 1, Integer.MAX_VALUE}, {LEAST, 0, 0}, {0, 0, LEAST}};
        for (int[] i : index) {
            due("34 copy(0, " + i[0] + ", 1, " + i[1] + ", " + i[2] + ")", x.copy(0, i[0], 1, i[1], i[2]), INDEX);
        }
        due("34 count(8)", x.count(8), 2);
        sheetDue(x, 1, 1, 2, 3, 30);
        due("34 copy(0, 9, 2, 0, 1)", x.copy(0, 9, 2, 0, 1), STORE);
        due("34 count(8)", x.count(8), 4);
        due("34 copy(0, 9, 3, 0, 1)", x.copy(0, 9, 3, 0, 1), NULL);
        due("34 copy(3, 9, 0, 0, 1)", x.copy(3, 9, 0, 0, 1), NULL);
        due("34 count(8)", x.count(8), 1);
        int[][] bad = {{4, 0}, {0, 4}, {-1, 3}, {3, -1}, {LEAST, 0}, {0, Integer.MAX_VALUE}};
        for (int[] b : bad) due("34 copy " + b[0] + " " + b[1], x.copy(b[0], 9, b[1], 9, 1), BAD);
        due("34 count(8)", x.count(8), 1);
    }

    private static void write() {
        SneezeGuard x = general();
        int[] stands = {1, 2, 3, 4, 5, 6, 7, 8, 0, 1, 2, 3, 4, 5, 6, 7, 8, 0, 1, 2, 3, 4, 5, 6};
        due("35 write(0, 0)", x.write(0, 0), NULL);
        due("35 count(8)", x.count(8), 1);
        for (int form = 0; form < 3; form++) {
            x.sheet(0, form, 26);
            x.lay(0, form, 23, 99);
            x.lay(0, form, 24, 99);
            due("35 write(0, 0): 24 at most", x.write(0, 0), 24);
            for (int h = 0; h < 24; h++) due("35 item " + h, x.get(0, form, h), stands[h]);
            due("35 item 24: as it was", x.get(0, form, 24), 99);
            due("35 item 25: as it was", x.get(0, form, 25), 0);
        }
        tell(x, 0, ";00");
        due("35 write(1, 0) of the next POST", x.write(1, 0), 24);
        // It hears the general in HOUR 17 alone, from CELL 1.
        for (int h = 0; h < 24; h++) due("35 item " + h, x.get(0, 2, h), h < 17 ? h + 1 : h - 17);
        retold(x, "50", "g0e9");
        x.sheet(1, 0, 3);
        due("35 write(0, 1): as many as there are", x.write(0, 1), 3);
        due("35 get(1, 0, 2)", x.get(1, 0, 2), 3);
        x.sheet(1, 0, 0);
        due("35 write(0, 1)", x.write(0, 1), 0);
        due("35 write(1, 0)", x.write(1, 0), BAD);
        due("35 write(-1, 0)", x.write(-1, 0), BAD);
        due("35 write(0, 4)", x.write(0, 4), BAD);
        due("35 write(0, -1)", x.write(0, -1), BAD);
        due("35 write(1, 2): BAD ahead of NULL", x.write(1, 2), BAD);
        for (int n : FAR) due("35 write(" + n + ", 0)", x.write(n, 0), BAD);
    }

    private static void count() {
        SneezeGuard x = guard("50;00;93", "g0e9;p0e8");
        x.event(2, 4, 0);
        x.seen(3, 3, 1);
        x.seen(3, 3, 1);
        x.lose(2);
        int[] want = {3, 2, 8, 9, 1, x.all(), Integer.bitCount(x.forgotten()), 2, 1};
        for (int what = 0; what <= 8; what++) due("36 count(" + what + ")", x.count(what), want[what]);
        due("36 count(9)", x.count(9), BAD);
        due("36 count(-1)", x.count(-1), BAD);
        for (int n : FAR) due("36 count(" + n + ")", x.count(n), BAD);
        tell(x, 0, "x");
        due("36 count(0) with a FAULT", x.count(0), 0);
        due("36 count(2) with a FAULT", x.count(2), 9);
        due("36 count(1)", x.count(1), 2);
        x = guard("50;50", "");
        due("36 count(6)", x.count(6), 2);
        due("36 count(5)", x.count(5), 0);
        x = general();
        due("36 count(5)", x.count(5), 2);
        due("36 count(6)", x.count(6), 0);
    }

    private static void digest() {
        // Of a new object: eight 0, two NONE, 24 HOURS, then what is told at the end.
        long h = 17;
        for (int i = 0; i < 8; i++) h = 31 * h;
        for (int i = 0; i < 2; i++) h = 31 * h - 1;
        for (int i = 0; i < 24; i++) h = 31 * h;
        int[] rest = {0, -1, -1, -1, -1, 0, 0, 0, -1, -1, 0, -1, 0, 0, 0};
        for (int told : rest) h = 31 * h + told;
        due("37 digest() of a new object", new SneezeGuard().digest(), h);
        SneezeGuard x = new SneezeGuard();
        x.sheet(0, 0, 4);
        x.lay(1, 0, 0, 0);
        due("37 digest(): SHEETS and FINDINGS are not in it", x.digest(), h);
        x = guard("50;02;93", "g0e9;p9w1;c4e6");
        x.event(1, 8, 0);
        x.event(0, 3, 6);
        x.event(2, 12, 0);
        x.seen(17, 0, 1);
        due("37 digest() by the other calls", x.digest(), digestByCalls(x));
        due("37 digest() once more", x.digest(), digestByCalls(x));
        // With what the one above has as 0 or NONE: FORGOTTEN, a QUIET one, one that had better not be.
        SneezeGuard y = guard("50;50", "g0e9");
        y.event(2, 4, 0);
        y.event(1, 8, 0);
        y.event(2, 17, 0);
        due("37 digest() by the other calls", y.digest(), digestByCalls(y));
        y.event(1, 17, 0);
        y.event(1, 4, 0);
        due("37 digest() by the other calls", y.digest(), digestByCalls(y));
        due("37 all() as it was", x.all(), x.count(5));
    }

    private static long digestByCalls(SneezeGuard x) {
        int[] hours = {0, 7, 15, 23};
        long h = 17;
        for (int what = 0; what <= 7; what++) h = 31 * h + x.count(what);
        h = 31 * (31 * h + x.fault(0)) + x.fault(1);
        for (int q = 0; q < x.count(0); q++) {
            h = 31 * (31 * h + x.post(q, 0)) + x.post(q, 1);
            for (int hour : hours) for (int what = 0; what < 3; what++) h = 31 * h + x.stood(hour, q, what);
            h = 31 * (31 * h + x.chance(5, q, 0)) + x.chance(5, q, 1);
        }
        for (int p = 0; p < x.count(1); p++) {
            for (int what = 0; what < 4; what++) h = 31 * h + x.person(p, what);
            for (int hour : hours) for (int what = 0; what < 4; what++) h = 31 * h + x.at(hour, p, what);
            h = 31 * (31 * h + x.stroll(p, 0)) + x.stroll(p, 1);
            h = 31 * (31 * h + x.was(p, 0)) + x.was(p, 1);
            h = 31 * h + x.ask(p);
        }
        for (int hour = 0; hour < 24; hour++) h = 31 * h + x.changes(hour);
        h = 31 * h + x.forgotten();
        for (int what = 0; what < 3; what++) h = 31 * h + x.longest(what);
        h = 31 * (31 * h + x.busy()) + x.quiet();
        h = 31 * (31 * h + x.dust(8, 0)) + x.dust(8, 1);
        h = 31 * (31 * h + x.hush(8, 0)) + x.hush(8, 1);
        h = 31 * (31 * h + x.spare(-1)) + x.spare(0);
        h = 31 * h + x.never();
        return 31 * (31 * h + x.decades(7, 6, 0)) + x.decades(7, 6, 1);
    }

    /** What is asked on supposition changes nothing of what is told. */
    private static void plansLeaveNothingBehind() {
        SneezeGuard x = guard("50;02;93", "g0e9;p9w1;c4e6");
        x.event(1, 8, 0);
        x.event(0, 3, 6);
        x.seen(17, 0, 1);
        long before = digestByCalls(x);
        for (int p = 0; p < 3; p++) {
            x.stroll(p, 0);
            x.was(p, 0);
            x.was(p, 1);
            x.ask(p);
        }
        for (int hour = 0; hour < 24; hour++) {
            x.dust(hour, 0);
            x.hush(hour, 0);
        }
        x.spare(0);
        x.never();
        x.chance(3, 1, 0);
        x.decades(99, 8, 0);
        due("19 to 29 leave all as it was", digestByCalls(x), before);
        // Each by itself, with one behind it that would show what it left.
        SneezeGuard y = general();
        y.event(1, 17, 0);
        y.dust(3, 0);
        due("20 leaves no PEPPER: hush(8, 1)", y.hush(8, 1), 0);
        y.hush(8, 0);
        due("21 leaves no nose HELD: dust(3, 1)", y.dust(3, 1), 2);
        y.chance(0, 0, 0);
        due("28 leaves all EVENTS: dust(3, 1)", y.dust(3, 1), 2);
        y.never();
        due("25 leaves all EVENTS: dust(3, 1)", y.dust(3, 1), 2);
        y.decades(771, 1, 0);
        due("29 leaves all EVENTS: dust(4, 1)", y.dust(4, 1), 2);
        y.was(0, 0);
        y.was(0, 1);
        due("26 leaves the PERSON: dust(4, 1)", y.dust(4, 1), 2);
        y.back();
        y.event(0, 3, 3);
        y.back();
        due("9 leaves no PEPPER: changes(3)", y.changes(3), 0);
    }
}
