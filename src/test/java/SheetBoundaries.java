/** SHEETS, FINDINGS, counts and the digest at their edges: 'Terms', promises 30 to 37. */
final class SheetBoundaries extends Guards {
    private static final String SHEETS = "SHEETS 0 .. 3 are LOST (at first) or a row of a FORM: 0 bytes, 1 shorts, 2 ints, "
        + "of 0 to 60 items (0 at first).";
    private static final String FINDINGS = "FINDINGS (answers -10 less the number; they change nothing but count() 8): "
        + "1 NULL: the SHEET is LOST; 2 INDEX: there is no such item; 3 CAST: it has another FORM; 4 STORE: unlike FORMS; "
        + "5 SIZE: below 0.";
    private static final String BAD_SHEET = "BAD: SHEET, FORM, above 60; SIZE.";
    private static final String LAY = "Item i, treated as of a FORM, becomes v (the lowest bits that it has, with its sign): 1.";
    private static final String BAD_LAY = "BAD; NULL; CAST; INDEX.";
    private static final String BAD_GET = "BAD: the least int; so are NULL, CAST, INDEX (count() 8 tells).";
    private static final String COPY = "n items of SHEET s, from i on, come to SHEET t (perhaps s, as they were), from j on: 1.";
    private static final String BAD_COPY = "BAD: the SHEETS; NULL: s, t; STORE; INDEX: below 0, not so many "
        + "(with n 0, too, if i or j is above how many there are).";
    private static final String WRITE = "How long a POST has STOOD behind HOURS 0 on comes to a SHEET (of each the lowest bits "
        + "that an item has, with its sign) from item 0 on, as many as there are items, 24 at most: how many.";
    private static final String COUNT = "0 POSTS, 1 PEOPLE, 2, 3 bytes of texts, 4 EVENTS, 5 ALL, 6 how many are FORGOTTEN, "
        + "7 SEEN, 8 the number of the latest FINDING (0 before any).";
    private static final String DIGEST = "h is 17; h becomes 31 h and each of (of each thing all that is told of it, then of the "
        + "next one): count() 0 to 7; of texts fault(); of POSTS post() 0, 1, of HOURS 0, 7, 15, 23 stood(the HOUR, it, 0 to 2), "
        + "then chance(5, it), above, below; of PEOPLE person() 0 to 3, of HOURS 0, 7, 15, 23 at(the HOUR, it, 0 to 3), "
        + "then stroll() 0, 1, was() 0, 1, ask(); of HOURS 0 to 23 changes(); forgotten(), longest() 0 to 2, busy(), quiet(), "
        + "dust(8, 0 and 1), hush(8, 0 and 1), spare(NONE), spare(0), never(), decades(7, 6, 0 and 1); as longs that wrap.";

    // ---- Terms: SHEETS

    @Sentence(in = "Terms", says = SHEETS)
    static void terms_sheets_0To3(Check c) {
        SneezeGuard x = new SneezeGuard();
        for (int s = 0; s < 4; s++) c.due("sheet(" + s + ", 2, 1)", x.sheet(s, INTS, 1), 1);
        for (int s = 0; s < 4; s++) x.lay(s, INTS, 0, 10 + s);
        for (int s = 0; s < 4; s++) c.due("get(" + s + ", 2, 0)", x.get(s, INTS, 0), 10 + s);
        for (int s : outside(4)) c.due("sheet(" + s + ", 2, 1)", x.sheet(s, INTS, 1), BAD);
    }

    @Sentence(in = "Terms", says = SHEETS)
    static void terms_sheets_lostAtFirst(Check c) {
        for (int s = 0; s < 4; s++) {
            SneezeGuard x = new SneezeGuard();
            c.due("lose(" + s + ")", x.lose(s), NULL);
            x.sheet(s, BYTES, 0);
            c.due("lose(" + s + ")", x.lose(s), 0);
            for (int other = 0; other < 4; other++) c.due("lose(" + other + ")", x.lose(other), NULL);
        }
    }

    @Sentence(in = "Terms", says = SHEETS)
    static void terms_sheets_forms0To2(Check c) {
        SneezeGuard x = new SneezeGuard();
        for (int form = 0; form < 3; form++) {
            c.due("sheet(0, " + form + ", 2)", x.sheet(0, form, 2), 2);
            for (int other = 0; other < 3; other++) {
                c.due("get(0, " + other + ", 0) of FORM " + form, x.get(0, other, 0), other == form ? 0 : LEAST);
                c.due("lay(0, " + other + ", 0, 0) of FORM " + form, x.lay(0, other, 0, 0), other == form ? 1 : CAST);
            }
        }
        for (int form : outside(3)) c.due("sheet(0, " + form + ", 2)", x.sheet(0, form, 2), BAD);
    }

    @Sentence(in = "Terms", says = SHEETS)
    static void terms_sheets_of0To60Items(Check c) {
        SneezeGuard x = new SneezeGuard();
        for (int form = 0; form < 3; form++) {
            c.due("sheet(1, " + form + ", 0)", x.sheet(1, form, 0), 0);
            c.due("lay(1, " + form + ", 0, 1): no item 0", x.lay(1, form, 0, 1), INDEX);
            c.due("sheet(1, " + form + ", 60)", x.sheet(1, form, 60), 60);
            c.due("lay(1, " + form + ", 59, 1)", x.lay(1, form, 59, 1), 1);
            c.due("lay(1, " + form + ", 60, 1)", x.lay(1, form, 60, 1), INDEX);
            c.due("sheet(1, " + form + ", 61)", x.sheet(1, form, 61), BAD);
        }
    }

    @Sentence(in = "Terms", says = SHEETS)
    static void terms_sheets_itemsAre0AtFirst(Check c) {
        SneezeGuard x = new SneezeGuard();
        for (int form = 0; form < 3; form++) {
            x.sheet(2, form, 60);
            for (int i = 0; i < 60; i++) c.due("get(2, " + form + ", " + i + ")", x.get(2, form, i), 0);
            x.lay(2, form, 0, -1);
            x.lay(2, form, 59, -1);
        }
    }

    // ---- Terms: FINDINGS

    @Sentence(in = "Terms", says = FINDINGS)
    static void terms_findings_answersAndNumbers(Check c) {
        SneezeGuard x = new SneezeGuard();
        c.due("lose(0)", x.lose(0), -11);
        c.due("count(8): NULL", x.count(8), 1);
        lay(x, 0, BYTES, 5);
        c.due("lay(0, 0, 1, 1)", x.lay(0, BYTES, 1, 1), -12);
        c.due("count(8): INDEX", x.count(8), 2);
        c.due("lay(0, 1, 0, 1)", x.lay(0, SHORTS, 0, 1), -13);
        c.due("count(8): CAST", x.count(8), 3);
        lay(x, 1, INTS, 6);
        c.due("copy(0, 0, 1, 0, 1)", x.copy(0, 0, 1, 0, 1), -14);
        c.due("count(8): STORE", x.count(8), 4);
        c.due("sheet(0, 0, -1)", x.sheet(0, BYTES, -1), -15);
        c.due("count(8): SIZE", x.count(8), 5);
        itemsDue(c, x, 0, BYTES, 5);
        itemsDue(c, x, 1, INTS, 6);
        c.due("count(8): what goes well tells none", x.count(8), 5);
    }

    @Sentence(in = "Terms", says = FINDINGS)
    static void terms_findings_otherRefusalsAreNone(Check c) {
        SneezeGuard x = guard(EIGHT_POSTS, "");
        x.type(0, 53);
        x.type(2, 53);
        x.undo(1);
        x.back();
        x.read(4);
        x.sheet(0, 0, 61);
        x.lose(-1);
        x.lay(4, 0, 0, 0);
        x.lay(0, 3, 0, 0);
        x.get(0, -1, 0);
        x.copy(0, 0, 4, 0, 0);
        x.write(8, 0);
        x.write(0, 4);
        c.due("count(8)", x.count(8), 0);
    }

    // ---- Promise 30: sheet

    @Sentence(in = "Promise 30: sheet", says = "A SHEET is a new row of a FORM with n items: n.")
    static void promise30_sheet_leastAndMostItems(Check c) {
        SneezeGuard x = new SneezeGuard();
        for (int s : new int[] {0, 3}) {
            for (int form = 0; form < 3; form++) {
                for (int n : new int[] {0, 1, 59, 60}) {
                    c.due("sheet(" + s + ", " + form + ", " + n + ")", x.sheet(s, form, n), n);
                    c.due("lose(" + s + ")", x.lose(s), n);
                }
            }
        }
    }

    @Sentence(in = "Promise 30: sheet", says = "A SHEET is a new row of a FORM with n items: n.")
    static void promise30_sheet_isNewWhereThereWasOne(Check c) {
        SneezeGuard x = new SneezeGuard();
        lay(x, 0, INTS, 7, 8, 9);
        lay(x, 1, INTS, 1, 2, 3);
        c.due("sheet(0, 2, 3): as long", x.sheet(0, INTS, 3), 3);
        itemsDue(c, x, 0, INTS, 0, 0, 0);
        lay(x, 0, INTS, 7, 8, 9);
        c.due("sheet(0, 0, 1): shorter, of another FORM", x.sheet(0, BYTES, 1), 1);
        c.due("get(0, 2, 0)", x.get(0, INTS, 0), LEAST);
        c.due("lay(0, 0, 1, 1)", x.lay(0, BYTES, 1, 1), INDEX);
        c.due("sheet(0, 2, 5): longer", x.sheet(0, INTS, 5), 5);
        itemsDue(c, x, 0, INTS, 0, 0, 0, 0, 0);
        itemsDue(c, x, 1, INTS, 1, 2, 3);
    }

    @Sentence(in = "Promise 30: sheet", says = BAD_SHEET)
    static void promise30_sheet_badSheet(Check c) {
        SneezeGuard x = new SneezeGuard();
        for (int n : outside(4)) c.due("sheet(" + n + ", 0, 1)", x.sheet(n, 0, 1), BAD);
        c.due("count(8)", x.count(8), 0);
    }

    @Sentence(in = "Promise 30: sheet", says = BAD_SHEET)
    static void promise30_sheet_badForm(Check c) {
        SneezeGuard x = new SneezeGuard();
        for (int n : outside(3)) c.due("sheet(0, " + n + ", 1)", x.sheet(0, n, 1), BAD);
        c.due("lose(0): it is not there", x.lose(0), NULL);
    }

    @Sentence(in = "Promise 30: sheet", says = BAD_SHEET)
    static void promise30_sheet_above60(Check c) {
        SneezeGuard x = new SneezeGuard();
        lay(x, 0, SHORTS, 5);
        for (int n : new int[] {61, 62, 100, 256, 65536, MOST}) c.due("sheet(0, 0, " + n + ")", x.sheet(0, 0, n), BAD);
        itemsDue(c, x, 0, SHORTS, 5);
        c.due("count(8)", x.count(8), 0);
    }

    @Sentence(in = "Promise 30: sheet", says = BAD_SHEET)
    static void promise30_sheet_size(Check c) {
        SneezeGuard x = new SneezeGuard();
        lay(x, 0, SHORTS, 5);
        for (int n : new int[] {-1, -2, -60, -256, LEAST}) {
            c.due("sheet(0, 0, " + n + ")", x.sheet(0, 0, n), SIZE);
            c.due("sheet(1, 2, " + n + ")", x.sheet(1, 2, n), SIZE);
        }
        c.due("count(8)", x.count(8), 5);
        itemsDue(c, x, 0, SHORTS, 5);
        c.due("lose(1): it is not there", x.lose(1), NULL);
    }

    @Sentence(in = "Promise 30: sheet", says = BAD_SHEET)
    static void promise30_sheet_badAheadOfSize(Check c) {
        SneezeGuard x = new SneezeGuard();
        c.due("sheet(4, 0, -1)", x.sheet(4, 0, -1), BAD);
        c.due("sheet(-1, 0, -1)", x.sheet(-1, 0, -1), BAD);
        c.due("sheet(0, 3, -1)", x.sheet(0, 3, -1), BAD);
        c.due("sheet(0, -1, -1)", x.sheet(0, -1, -1), BAD);
        c.due("count(8)", x.count(8), 0);
    }

    // ---- Promise 31: lose

    @Sentence(in = "Promise 31: lose", says = "It is LOST: how many items it had.")
    static void promise31_lose_ofNoneAndOf60(Check c) {
        SneezeGuard x = new SneezeGuard();
        for (int s : new int[] {0, 3}) {
            for (int n : new int[] {0, 60}) {
                x.sheet(s, INTS, n);
                c.due("lose(" + s + ")", x.lose(s), n);
                c.due("get(" + s + ", 2, 0)", x.get(s, INTS, 0), LEAST);
                c.due("count(8): NULL", x.count(8), 1);
            }
        }
    }

    @Sentence(in = "Promise 31: lose", says = "BAD; NULL.")
    static void promise31_lose_bad(Check c) {
        SneezeGuard x = new SneezeGuard();
        for (int s = 0; s < 4; s++) x.sheet(s, BYTES, s);
        for (int n : outside(4)) c.due("lose(" + n + ")", x.lose(n), BAD);
        c.due("count(8)", x.count(8), 0);
        for (int s = 0; s < 4; s++) c.due("lose(" + s + ")", x.lose(s), s);
    }

    @Sentence(in = "Promise 31: lose", says = "BAD; NULL.")
    static void promise31_lose_null(Check c) {
        SneezeGuard x = new SneezeGuard();
        for (int s = 0; s < 4; s++) c.due("lose(" + s + ")", x.lose(s), NULL);
        x.sheet(2, BYTES, 3);
        x.lose(2);
        c.due("lose(2): once more", x.lose(2), NULL);
        c.due("count(8)", x.count(8), 1);
        c.due("sheet(2, 0, 1): there may be one again", x.sheet(2, BYTES, 1), 1);
        c.due("lose(2)", x.lose(2), 1);
    }

    // ---- Promise 32: lay

    @Sentence(in = "Promise 32: lay", says = LAY)
    static void promise32_lay_theLowestBitsOfAByte(Check c) {
        int[][] told = {{0, 0}, {127, 127}, {128, -128}, {255, -1}, {256, 0}, {257, 1}, {-1, -1}, {-128, -128}, {-129, 127},
            {384, -128}, {MOST, -1}, {LEAST, 0}};
        SneezeGuard x = new SneezeGuard();
        x.sheet(0, BYTES, 1);
        for (int[] v : told) {
            c.due("lay(0, 0, 0, " + v[0] + ")", x.lay(0, BYTES, 0, v[0]), 1);
            c.due("get(0, 0, 0) of " + v[0], x.get(0, BYTES, 0), v[1]);
        }
    }

    @Sentence(in = "Promise 32: lay", says = LAY)
    static void promise32_lay_theLowestBitsOfAShort(Check c) {
        int[][] told = {{0, 0}, {128, 128}, {32767, 32767}, {32768, -32768}, {65535, -1}, {65536, 0}, {65537, 1}, {-1, -1},
            {-32768, -32768}, {-32769, 32767}, {MOST, -1}, {LEAST, 0}};
        SneezeGuard x = new SneezeGuard();
        x.sheet(0, SHORTS, 1);
        for (int[] v : told) {
            c.due("lay(0, 1, 0, " + v[0] + ")", x.lay(0, SHORTS, 0, v[0]), 1);
            c.due("get(0, 1, 0) of " + v[0], x.get(0, SHORTS, 0), v[1]);
        }
    }

    @Sentence(in = "Promise 32: lay", says = LAY)
    static void promise32_lay_allBitsOfAnInt(Check c) {
        SneezeGuard x = new SneezeGuard();
        x.sheet(0, INTS, 1);
        for (int v : new int[] {0, 128, 32768, 65536, -1, MOST, LEAST, LEAST + 1}) {
            c.due("lay(0, 2, 0, " + v + ")", x.lay(0, INTS, 0, v), 1);
            c.due("get(0, 2, 0) of " + v, x.get(0, INTS, 0), v);
        }
    }

    @Sentence(in = "Promise 32: lay", says = LAY)
    static void promise32_lay_theFirstAndTheLastItem(Check c) {
        SneezeGuard x = new SneezeGuard();
        lay(x, 0, SHORTS, 1, 2, 3);
        lay(x, 1, SHORTS, 4, 5, 6);
        c.due("lay(0, 1, 0, 7)", x.lay(0, SHORTS, 0, 7), 1);
        itemsDue(c, x, 0, SHORTS, 7, 2, 3);
        c.due("lay(0, 1, 2, 9)", x.lay(0, SHORTS, 2, 9), 1);
        itemsDue(c, x, 0, SHORTS, 7, 2, 9);
        itemsDue(c, x, 1, SHORTS, 4, 5, 6);
    }

    @Sentence(in = "Promise 32: lay", says = BAD_LAY)
    static void promise32_lay_bad(Check c) {
        SneezeGuard x = new SneezeGuard();
        lay(x, 0, BYTES, 5);
        for (int n : outside(4)) c.due("lay(" + n + ", 0, 0, 1)", x.lay(n, 0, 0, 1), BAD);
        for (int n : outside(3)) c.due("lay(0, " + n + ", 0, 1)", x.lay(0, n, 0, 1), BAD);
        c.due("count(8)", x.count(8), 0);
        itemsDue(c, x, 0, BYTES, 5);
    }

    @Sentence(in = "Promise 32: lay", says = BAD_LAY)
    static void promise32_lay_null(Check c) {
        SneezeGuard x = new SneezeGuard();
        for (int s = 0; s < 4; s++) c.due("lay(" + s + ", 0, 0, 1)", x.lay(s, BYTES, 0, 1), NULL);
        lay(x, 3, BYTES, 5);
        x.lose(3);
        c.due("lay(3, 0, 0, 1) of one that was LOST", x.lay(3, BYTES, 0, 1), NULL);
        c.due("count(8)", x.count(8), 1);
    }

    @Sentence(in = "Promise 32: lay", says = BAD_LAY)
    static void promise32_lay_cast(Check c) {
        for (int form = 0; form < 3; form++) {
            SneezeGuard x = new SneezeGuard();
            lay(x, 0, form, 5);
            for (int other = 0; other < 3; other++) {
                if (other == form) continue;
                c.due("lay(0, " + other + ", 0, 1) of FORM " + form, x.lay(0, other, 0, 1), CAST);
                c.due("count(8)", x.count(8), 3);
            }
            itemsDue(c, x, 0, form, 5);
        }
    }

    @Sentence(in = "Promise 32: lay", says = BAD_LAY)
    static void promise32_lay_index(Check c) {
        SneezeGuard x = new SneezeGuard();
        lay(x, 0, BYTES, 5, 6);
        for (int n : outside(2)) c.due("lay(0, 0, " + n + ", 1)", x.lay(0, BYTES, n, 1), INDEX);
        c.due("count(8)", x.count(8), 2);
        itemsDue(c, x, 0, BYTES, 5, 6);
        x.sheet(1, INTS, 60);
        c.due("lay(1, 2, 60, 1)", x.lay(1, INTS, 60, 1), INDEX);
        x.sheet(1, INTS, 0);
        c.due("lay(1, 2, 0, 1) of no items", x.lay(1, INTS, 0, 1), INDEX);
    }

    @Sentence(in = "Promise 32: lay", says = BAD_LAY)
    static void promise32_lay_oneAheadOfTheOther(Check c) {
        SneezeGuard x = new SneezeGuard();
        c.due("lay(0, 3, 9, 1): BAD ahead of NULL", x.lay(0, 3, 9, 1), BAD);
        c.due("count(8)", x.count(8), 0);
        c.due("lay(0, 1, -1, 1): NULL ahead of INDEX", x.lay(0, SHORTS, -1, 1), NULL);
        lay(x, 0, BYTES, 5);
        c.due("lay(0, 1, 1, 1): CAST ahead of INDEX", x.lay(0, SHORTS, 1, 1), CAST);
        c.due("lay(0, 3, 1, 1): BAD ahead of CAST and INDEX", x.lay(0, 3, 1, 1), BAD);
        x.lose(0);
        c.due("lay(0, 1, 0, 1): NULL ahead of CAST", x.lay(0, SHORTS, 0, 1), NULL);
    }

    // ---- Promise 33: get

    @Sentence(in = "Promise 33: get", says = "Item i of it.")
    static void promise33_get_theFirstAndTheLastItem(Check c) {
        for (int form = 0; form < 3; form++) {
            SneezeGuard x = new SneezeGuard();
            x.sheet(3, form, 60);
            x.lay(3, form, 0, -5);
            x.lay(3, form, 59, 6);
            c.due("get(3, " + form + ", 0)", x.get(3, form, 0), -5);
            c.due("get(3, " + form + ", 59)", x.get(3, form, 59), 6);
            c.due("get(3, " + form + ", 58)", x.get(3, form, 58), 0);
            c.due("count(8)", x.count(8), 0);
        }
    }

    @Sentence(in = "Promise 33: get", says = BAD_GET)
    static void promise33_get_badIsTheLeastIntAndNoFinding(Check c) {
        SneezeGuard x = new SneezeGuard();
        lay(x, 0, BYTES, 5);
        for (int n : outside(4)) c.due("get(" + n + ", 0, 0)", x.get(n, 0, 0), -2147483648);
        for (int n : outside(3)) c.due("get(0, " + n + ", 0)", x.get(0, n, 0), -2147483648);
        c.due("count(8)", x.count(8), 0);
    }

    @Sentence(in = "Promise 33: get", says = BAD_GET)
    static void promise33_get_nullIsTold(Check c) {
        SneezeGuard x = new SneezeGuard();
        c.due("get(0, 0, 0)", x.get(0, 0, 0), -2147483648);
        c.due("count(8)", x.count(8), 1);
        x.lay(0, 0, 0, 0);
        lay(x, 3, BYTES, 5);
        x.lose(3);
        x.sheet(0, 0, -1);
        c.due("get(3, 0, 0)", x.get(3, 0, 0), -2147483648);
        c.due("count(8)", x.count(8), 1);
    }

    @Sentence(in = "Promise 33: get", says = BAD_GET)
    static void promise33_get_castIsTold(Check c) {
        for (int form = 0; form < 3; form++) {
            SneezeGuard x = new SneezeGuard();
            lay(x, 0, form, 5);
            for (int other = 0; other < 3; other++) {
                if (other == form) continue;
                x.lose(1);
                c.due("get(0, " + other + ", 0) of FORM " + form, x.get(0, other, 0), -2147483648);
                c.due("count(8)", x.count(8), 3);
            }
        }
    }

    @Sentence(in = "Promise 33: get", says = BAD_GET)
    static void promise33_get_indexIsTold(Check c) {
        SneezeGuard x = new SneezeGuard();
        lay(x, 0, BYTES, 5, 6);
        for (int n : outside(2)) {
            x.lose(1);
            c.due("get(0, 0, " + n + ")", x.get(0, BYTES, n), -2147483648);
            c.due("count(8)", x.count(8), 2);
        }
    }

    @Sentence(in = "Promise 33: get", says = BAD_GET)
    static void promise33_get_oneAheadOfTheOther(Check c) {
        SneezeGuard x = new SneezeGuard();
        x.get(0, 3, 9);
        c.due("count(8): BAD ahead of NULL", x.count(8), 0);
        x.get(0, 1, 9);
        c.due("count(8): NULL ahead of INDEX", x.count(8), 1);
        lay(x, 0, BYTES, 5);
        x.get(0, 1, 9);
        c.due("count(8): CAST ahead of INDEX", x.count(8), 3);
        x.get(0, 0, 9);
        c.due("count(8): INDEX", x.count(8), 2);
        x.get(0, 3, 9);
        c.due("count(8): BAD is none", x.count(8), 2);
    }

    @Sentence(in = "Promise 33: get", says = BAD_GET)
    static void promise33_get_theLeastIntThatIsAnItemIsNoFinding(Check c) {
        SneezeGuard x = new SneezeGuard();
        lay(x, 0, INTS, LEAST);
        c.due("get(0, 2, 0)", x.get(0, INTS, 0), LEAST);
        c.due("count(8)", x.count(8), 0);
    }

    // ---- Promise 34: copy

    @Sentence(in = "Promise 34: copy", says = COPY)
    static void promise34_copy_wholeAndTheEnds(Check c) {
        for (int form = 0; form < 3; form++) {
            SneezeGuard x = new SneezeGuard();
            lay(x, 0, form, 1, -2, 3);
            lay(x, 3, form, 7, 8, 9);
            c.due("copy(0, 0, 3, 2, 1): to the last", x.copy(0, 0, 3, 2, 1), 1);
            itemsDue(c, x, 3, form, 7, 8, 1);
            c.due("copy(0, 2, 3, 0, 1): of the last", x.copy(0, 2, 3, 0, 1), 1);
            itemsDue(c, x, 3, form, 3, 8, 1);
            c.due("copy(0, 0, 3, 0, 3): whole", x.copy(0, 0, 3, 0, 3), 1);
            itemsDue(c, x, 3, form, 1, -2, 3);
            itemsDue(c, x, 0, form, 1, -2, 3);
            c.due("count(8)", x.count(8), 0);
        }
    }

    @Sentence(in = "Promise 34: copy", says = COPY)
    static void promise34_copy_toItselfAsTheyWere(Check c) {
        SneezeGuard x = new SneezeGuard();
        lay(x, 0, INTS, 1, 2, 3, 4, 5);
        c.due("copy(0, 0, 0, 1, 4): on", x.copy(0, 0, 0, 1, 4), 1);
        itemsDue(c, x, 0, INTS, 1, 1, 2, 3, 4);
        c.due("copy(0, 1, 0, 0, 4): back", x.copy(0, 1, 0, 0, 4), 1);
        itemsDue(c, x, 0, INTS, 1, 2, 3, 4, 4);
        c.due("copy(0, 0, 0, 0, 5): where they are", x.copy(0, 0, 0, 0, 5), 1);
        itemsDue(c, x, 0, INTS, 1, 2, 3, 4, 4);
    }

    @Sentence(in = "Promise 34: copy", says = COPY)
    static void promise34_copy_of60(Check c) {
        SneezeGuard x = new SneezeGuard();
        x.sheet(0, SHORTS, 60);
        x.sheet(1, SHORTS, 60);
        for (int i = 0; i < 60; i++) x.lay(0, SHORTS, i, 100 + i);
        c.due("copy(0, 0, 1, 0, 60)", x.copy(0, 0, 1, 0, 60), 1);
        for (int i = 0; i < 60; i++) c.due("get(1, 1, " + i + ")", x.get(1, SHORTS, i), 100 + i);
        c.due("copy(0, 0, 1, 0, 61)", x.copy(0, 0, 1, 0, 61), INDEX);
    }

    @Sentence(in = "Promise 34: copy", says = COPY)
    static void promise34_copy_ofNone(Check c) {
        SneezeGuard x = new SneezeGuard();
        lay(x, 0, BYTES, 1, 2);
        x.sheet(1, BYTES, 0);
        c.due("copy(0, 0, 0, 0, 0)", x.copy(0, 0, 0, 0, 0), 1);
        c.due("copy(0, 2, 1, 0, 0): at both ends", x.copy(0, 2, 1, 0, 0), 1);
        c.due("copy(1, 0, 0, 2, 0): at both ends", x.copy(1, 0, 0, 2, 0), 1);
        c.due("copy(1, 0, 1, 0, 0)", x.copy(1, 0, 1, 0, 0), 1);
        itemsDue(c, x, 0, BYTES, 1, 2);
        c.due("count(8)", x.count(8), 0);
    }

    @Sentence(in = "Promise 34: copy", says = BAD_COPY)
    static void promise34_copy_badSheets(Check c) {
        SneezeGuard x = new SneezeGuard();
        lay(x, 0, BYTES, 1, 2);
        for (int n : outside(4)) {
            c.due("copy(" + n + ", 0, 0, 0, 1)", x.copy(n, 0, 0, 0, 1), BAD);
            c.due("copy(0, 0, " + n + ", 0, 1)", x.copy(0, 0, n, 0, 1), BAD);
        }
        c.due("count(8)", x.count(8), 0);
    }

    @Sentence(in = "Promise 34: copy", says = BAD_COPY)
    static void promise34_copy_null(Check c) {
        SneezeGuard x = new SneezeGuard();
        lay(x, 0, BYTES, 1, 2);
        c.due("copy(1, 0, 0, 0, 1): s", x.copy(1, 0, 0, 0, 1), NULL);
        c.due("copy(0, 0, 1, 0, 1): t", x.copy(0, 0, 1, 0, 1), NULL);
        c.due("copy(2, 0, 3, 0, 0): both, and none", x.copy(2, 0, 3, 0, 0), NULL);
        c.due("count(8)", x.count(8), 1);
        itemsDue(c, x, 0, BYTES, 1, 2);
    }

    @Sentence(in = "Promise 34: copy", says = BAD_COPY)
    static void promise34_copy_store(Check c) {
        for (int form = 0; form < 3; form++) {
            for (int other = 0; other < 3; other++) {
                if (other == form) continue;
                SneezeGuard x = new SneezeGuard();
                lay(x, 0, form, 1, 2);
                lay(x, 1, other, 3, 4);
                c.due("copy(0, 0, 1, 0, 1)", x.copy(0, 0, 1, 0, 1), STORE);
                c.due("copy(0, 0, 1, 0, 0): of none too", x.copy(0, 0, 1, 0, 0), STORE);
                c.due("count(8)", x.count(8), 4);
                itemsDue(c, x, 0, form, 1, 2);
                itemsDue(c, x, 1, other, 3, 4);
            }
        }
    }

    @Sentence(in = "Promise 34: copy", says = BAD_COPY)
    static void promise34_copy_indexBelow0(Check c) {
        SneezeGuard x = new SneezeGuard();
        lay(x, 0, BYTES, 1, 2, 3);
        lay(x, 1, BYTES, 4, 5, 6);
        for (int n : new int[] {-1, -3, -256, LEAST}) {
            c.due("copy(0, " + n + ", 1, 0, 1)", x.copy(0, n, 1, 0, 1), INDEX);
            c.due("copy(0, 0, 1, " + n + ", 1)", x.copy(0, 0, 1, n, 1), INDEX);
            c.due("copy(0, 0, 1, 0, " + n + ")", x.copy(0, 0, 1, 0, n), INDEX);
            c.due("copy(0, 1, 1, 1, " + n + ")", x.copy(0, 1, 1, 1, n), INDEX);
            c.due("copy(0, " + n + ", 1, 0, 0): of none too", x.copy(0, n, 1, 0, 0), INDEX);
            c.due("copy(0, 0, 1, " + n + ", 0): of none too", x.copy(0, 0, 1, n, 0), INDEX);
        }
        c.due("count(8)", x.count(8), 2);
        itemsDue(c, x, 1, BYTES, 4, 5, 6);
    }

    @Sentence(in = "Promise 34: copy", says = BAD_COPY)
    static void promise34_copy_indexNotSoMany(Check c) {
        SneezeGuard x = new SneezeGuard();
        lay(x, 0, BYTES, 1, 2, 3, 4);
        lay(x, 1, BYTES, 5, 6, 7);
        c.due("copy(1, 0, 0, 0, 4): of s", x.copy(1, 0, 0, 0, 4), INDEX);
        c.due("copy(1, 2, 0, 0, 2): of s from 2 on", x.copy(1, 2, 0, 0, 2), INDEX);
        c.due("copy(1, 3, 0, 0, 1): of s from its end on", x.copy(1, 3, 0, 0, 1), INDEX);
        c.due("copy(0, 0, 1, 0, 4): of t", x.copy(0, 0, 1, 0, 4), INDEX);
        c.due("copy(0, 0, 1, 1, 3): of t from 1 on", x.copy(0, 0, 1, 1, 3), INDEX);
        c.due("copy(0, 0, 1, 3, 1): of t from its end on", x.copy(0, 0, 1, 3, 1), INDEX);
        c.due("copy(0, 1, 0, 0, 4): of itself", x.copy(0, 1, 0, 0, 4), INDEX);
        itemsDue(c, x, 0, BYTES, 1, 2, 3, 4);
        itemsDue(c, x, 1, BYTES, 5, 6, 7);
    }

    @Sentence(in = "Promise 34: copy", says = BAD_COPY)
    static void promise34_copy_indexWhereTheSumWouldWrap(Check c) {
        SneezeGuard x = new SneezeGuard();
        lay(x, 0, BYTES, 1, 2, 3);
        lay(x, 1, BYTES, 4, 5, 6);
        c.due("copy(0, most, 1, 0, 1)", x.copy(0, MOST, 1, 0, 1), INDEX);
        c.due("copy(0, 0, 1, most, 1)", x.copy(0, 0, 1, MOST, 1), INDEX);
        c.due("copy(0, 0, 1, 0, most)", x.copy(0, 0, 1, 0, MOST), INDEX);
        c.due("copy(0, 1, 1, 1, most)", x.copy(0, 1, 1, 1, MOST), INDEX);
        c.due("copy(0, most, 1, most, most)", x.copy(0, MOST, 1, MOST, MOST), INDEX);
        c.due("copy(0, most, 1, 0, 0)", x.copy(0, MOST, 1, 0, 0), INDEX);
        c.due("copy(0, least, 1, least, least)", x.copy(0, LEAST, 1, LEAST, LEAST), INDEX);
        itemsDue(c, x, 1, BYTES, 4, 5, 6);
    }

    @Sentence(in = "Promise 34: copy", says = BAD_COPY)
    static void promise34_copy_indexWithN0Too(Check c) {
        SneezeGuard x = new SneezeGuard();
        lay(x, 0, BYTES, 1, 2, 3);
        lay(x, 1, BYTES, 4, 5);
        c.due("copy(0, 3, 1, 2, 0): just not", x.copy(0, 3, 1, 2, 0), 1);
        c.due("copy(0, 4, 1, 2, 0)", x.copy(0, 4, 1, 2, 0), INDEX);
        c.due("copy(0, 3, 1, 3, 0)", x.copy(0, 3, 1, 3, 0), INDEX);
        c.due("copy(0, 4, 0, 0, 0): to itself", x.copy(0, 4, 0, 0, 0), INDEX);
    }

    @Sentence(in = "Promise 34: copy", says = BAD_COPY)
    static void promise34_copy_oneAheadOfTheOther(Check c) {
        SneezeGuard x = new SneezeGuard();
        c.due("copy(0, -1, 4, 0, 1): BAD ahead of NULL", x.copy(0, -1, 4, 0, 1), BAD);
        c.due("copy(4, -1, 0, 0, 1): BAD ahead of NULL", x.copy(4, -1, 0, 0, 1), BAD);
        c.due("count(8)", x.count(8), 0);
        lay(x, 0, BYTES, 1);
        lay(x, 1, SHORTS, 1);
        c.due("copy(0, -1, 2, 0, 1): NULL ahead of INDEX", x.copy(0, -1, 2, 0, 1), NULL);
        c.due("copy(2, 0, 1, 9, 1): NULL ahead of INDEX", x.copy(2, 0, 1, 9, 1), NULL);
        c.due("copy(0, -1, 1, 9, 9): STORE ahead of INDEX", x.copy(0, -1, 1, 9, 9), STORE);
        c.due("copy(0, 0, 4, 0, 1): BAD ahead of STORE", x.copy(0, 0, 4, 0, 1), BAD);
    }

    // ---- Promise 35: write

    @Sentence(in = "Promise 35: write", says = WRITE)
    static void promise35_write_asManyAsThereAreItems(Check c) {
        SneezeGuard x = guard("50", "");
        for (int n : new int[] {0, 1, 23, 24}) {
            x.sheet(0, INTS, n);
            c.due("write(0, 0) of " + n, x.write(0, 0), n);
            for (int i = 0; i < n; i++) c.due("get(0, 2, " + i + ")", x.get(0, INTS, i), i + 1);
        }
    }

    @Sentence(in = "Promise 35: write", says = WRITE)
    static void promise35_write_24AtMost(Check c) {
        SneezeGuard x = guard("50", "");
        for (int n : new int[] {25, 60}) {
            x.sheet(0, SHORTS, n);
            x.lay(0, SHORTS, 24, -7);
            c.due("write(0, 0) of " + n, x.write(0, 0), 24);
            c.due("get(0, 1, 23)", x.get(0, SHORTS, 23), 24);
            c.due("get(0, 1, 24): as it was", x.get(0, SHORTS, 24), -7);
        }
        c.due("get(0, 1, 59): as it was", x.get(0, SHORTS, 59), 0);
    }

    @Sentence(in = "Promise 35: write", says = WRITE)
    static void promise35_write_eachFormAndPost(Check c) {
        // The last is CHANGED in HOUR 17 alone.
        SneezeGuard x = guard("50;50;50;50;50;50;50;00", "g0e9");
        for (int form = 0; form < 3; form++) {
            x.sheet(form, form, 24);
            c.due("write(7, " + form + ")", x.write(7, form), 24);
            for (int hour : new int[] {0, 16, 17, 18, 23}) {
                c.due("get(" + form + ", " + form + ", " + hour + ")", x.get(form, form, hour), hour < 17 ? hour + 1 : hour - 17);
            }
            c.due("write(0, " + form + ")", x.write(0, form), 24);
            c.due("get(" + form + ", " + form + ", 8)", x.get(form, form, 8), 0);
        }
    }

    @Sentence(in = "Promise 35: write", says = "BAD; NULL.")
    static void promise35_write_bad(Check c) {
        SneezeGuard x = guard("50", "g0e9;g0e9");
        lay(x, 0, BYTES, 5);
        for (int n : outside(1)) c.due("write(" + n + ", 0)", x.write(n, 0), BAD);
        for (int n : outside(4)) c.due("write(0, " + n + ")", x.write(0, n), BAD);
        c.due("count(8)", x.count(8), 0);
        x.wipe(0);
        c.due("write(0, 0) of no POSTS", x.write(0, 0), BAD);
        itemsDue(c, x, 0, BYTES, 5);
    }

    @Sentence(in = "Promise 35: write", says = "BAD; NULL.")
    static void promise35_write_null(Check c) {
        SneezeGuard x = general();
        for (int s = 0; s < 4; s++) c.due("write(0, " + s + ")", x.write(0, s), NULL);
        c.due("count(8)", x.count(8), 1);
    }

    @Sentence(in = "Promise 35: write", says = "BAD; NULL.")
    static void promise35_write_badAheadOfNull(Check c) {
        SneezeGuard x = general();
        c.due("write(1, 0)", x.write(1, 0), BAD);
        c.due("write(-1, 0)", x.write(-1, 0), BAD);
        c.due("count(8)", x.count(8), 0);
    }

    // ---- Promise 36: count

    @Sentence(in = "Promise 36: count", says = COUNT)
    static void promise36_count_leastOfEach(Check c) {
        SneezeGuard x = new SneezeGuard();
        for (int what = 0; what <= 8; what++) c.due("count(" + what + ")", x.count(what), 0);
    }

    @Sentence(in = "Promise 36: count", says = COUNT)
    static void promise36_count_mostOfEach(Check c) {
        SneezeGuard x = guard(EIGHT_POSTS, SIX_PEOPLE);
        for (int i = 0; i < 8; i++) {
            x.event(HELD, 1, 9);
            x.seen(0, 0, 0);
        }
        int[] most = {8, 6, 23, 29, 8};
        for (int what = 0; what < 5; what++) c.due("count(" + what + ")", x.count(what), most[what]);
        c.due("count(5)", guard("50;50;50;50;50;50;50;50", "g0e1").count(5), 192);
        c.due("count(6)", guard(EIGHT_POSTS, "").count(6), 8);
        c.due("count(7)", x.count(7), 8);
        x.sheet(0, 0, -1);
        c.due("count(8)", x.count(8), 5);
    }

    @Sentence(in = "Promise 36: count", says = COUNT)
    static void promise36_count_withAFaultTheBytesAreCounted(Check c) {
        SneezeGuard x = guard("50;", "g0e9;");
        int[] want = {0, 0, 3, 5};
        for (int what = 0; what < 4; what++) c.due("count(" + what + ")", x.count(what), want[what]);
    }

    @Sentence(in = "Promise 36: count", says = COUNT)
    static void promise36_count_theLatestFinding(Check c) {
        SneezeGuard x = new SneezeGuard();
        c.due("count(8): before any", x.count(8), 0);
        x.sheet(0, 0, -1);
        c.due("count(8)", x.count(8), 5);
        x.lose(0);
        c.due("count(8): the latest, not the greatest", x.count(8), 1);
        x.sheet(0, 0, 3);
        x.back();
        x.count(9);
        c.due("count(8): it stays", x.count(8), 1);
    }

    @Sentence(in = "Promise 36: count", says = "BAD.")
    static void promise36_count_bad(Check c) {
        SneezeGuard x = general();
        for (int n : outside(9)) c.due("count(" + n + ")", x.count(n), BAD);
    }

    // ---- Promise 37: digest

    private static java.math.BigInteger more(java.math.BigInteger h, long told) {
        return h.multiply(java.math.BigInteger.valueOf(31)).add(java.math.BigInteger.valueOf(told));
    }

    /** By the other calls, without a wrap until its end. */
    private static long digestByCalls(SneezeGuard x) {
        int[] hours = {0, 7, 15, 23};
        java.math.BigInteger h = java.math.BigInteger.valueOf(17);
        for (int what = 0; what <= 7; what++) h = more(h, x.count(what));
        for (int text = 0; text < 2; text++) h = more(h, x.fault(text));
        int posts = x.count(0), people = x.count(1);
        for (int q = 0; q < posts; q++) {
            for (int what = 0; what < 2; what++) h = more(h, x.post(q, what));
            for (int hour : hours) for (int what = 0; what < 3; what++) h = more(h, x.stood(hour, q, what));
            for (int what = 0; what < 2; what++) h = more(h, x.chance(5, q, what));
        }
        for (int p = 0; p < people; p++) {
            for (int what = 0; what < 4; what++) h = more(h, x.person(p, what));
            for (int hour : hours) for (int what = 0; what < 4; what++) h = more(h, x.at(hour, p, what));
            for (int what = 0; what < 2; what++) h = more(h, x.stroll(p, what));
            for (int what = 0; what < 2; what++) h = more(h, x.was(p, what));
            h = more(h, x.ask(p));
        }
        for (int hour = 0; hour < 24; hour++) h = more(h, x.changes(hour));
        h = more(h, x.forgotten());
        for (int what = 0; what < 3; what++) h = more(h, x.longest(what));
        h = more(more(h, x.busy()), x.quiet());
        for (int what = 0; what < 2; what++) h = more(h, x.dust(8, what));
        for (int what = 0; what < 2; what++) h = more(h, x.hush(8, what));
        h = more(more(more(h, x.spare(-1)), x.spare(0)), x.never());
        return more(more(h, x.decades(7, 6, 0)), x.decades(7, 6, 1)).longValue();
    }

    @Sentence(in = "Promise 37: digest", says = DIGEST)
    static void promise37_digest_ofANewObject(Check c) {
        java.math.BigInteger h = java.math.BigInteger.valueOf(17);
        for (int i = 0; i < 8; i++) h = more(h, 0);
        for (int i = 0; i < 2; i++) h = more(h, -1);
        for (int i = 0; i < 24; i++) h = more(h, 0);
        for (int told : new int[] {0, -1, -1, -1, -1, 0, 0, 0, -1, -1, 0, -1, 0, 0, 0}) h = more(h, told);
        c.due("digest()", new SneezeGuard().digest(), h.longValue());
    }

    @Sentence(in = "Promise 37: digest", says = DIGEST)
    static void promise37_digest_ofAFullOneWraps(Check c) {
        SneezeGuard x = guard(EIGHT_POSTS, SIX_PEOPLE);
        withEvents(x, pepper(8, 8), held(8, 5), frost(0), held(23, 0), pepper(7, 0), frost(12), held(12, 2), held(3, 3));
        x.seen(0, 0, 1);
        c.due("digest()", x.digest(), digestByCalls(x));
    }

    @Sentence(in = "Promise 37: digest", says = DIGEST)
    static void promise37_digest_ofPostsAloneAndOfPeopleAlone(Check c) {
        SneezeGuard posts = withEvents(guard(EIGHT_POSTS, ""), frost(3));
        c.due("digest() of POSTS", posts.digest(), digestByCalls(posts));
        SneezeGuard people = withEvents(guard("", SIX_PEOPLE), frost(3));
        c.due("digest() of PEOPLE", people.digest(), digestByCalls(people));
    }

    @Sentence(in = "Promise 37: digest", says = DIGEST)
    static void promise37_digest_withFaults(Check c) {
        SneezeGuard x = withEvents(guard(EIGHT_POSTS, SIX_PEOPLE), frost(3));
        x.undo(0);
        c.due("digest() of no POSTS by a FAULT", x.digest(), digestByCalls(x));
        x.undo(1);
        c.due("digest() of neither", x.digest(), digestByCalls(x));
        tell(x, 0, "3");
        c.due("digest() of no PEOPLE by a FAULT", x.digest(), digestByCalls(x));
    }

    @Sentence(in = "Promise 37: digest", says = DIGEST)
    static void promise37_digest_ofDecadesByThatSeedAndThatMany(Check c) {
        SneezeGuard x = guard("62;51;00;62;42;70;92;03", "p7w9;p4w6;c4w8;p6e5;c8w1;p5w5");
        int[][] others = {{7, 5}, {7, 7}, {6, 6}, {8, 6}};
        for (int what = 0; what < 2; what++) {
            for (int[] o : others) c.holds("another answer", x.decades(7, 6, what) != x.decades(o[0], o[1], what));
        }
        c.holds("a CELL for PEPPER that is not 0", x.dust(8, 0) > 0);
        c.holds("a PERSON to be HELD who is not 0", x.hush(8, 0) > 0);
        c.due("digest()", x.digest(), digestByCalls(x));
    }

    @Sentence(in = "Promise 37: digest", says = DIGEST)
    static void promise37_digest_ofForgottenAndQuiet(Check c) {
        SneezeGuard x = withEvents(guard("50;50", "g0e9;p0e9"), held(8, 0), held(17, 0), held(8, 1), held(17, 1));
        c.due("digest()", x.digest(), digestByCalls(x));
        x.back();
        x.back();
        c.due("digest()", x.digest(), digestByCalls(x));
        x.back();
        x.event(FROST, 9, 0);
        c.due("digest()", x.digest(), digestByCalls(x));
    }

    @Sentence(in = "Promise 37: digest", says = DIGEST)
    static void promise37_digest_doesNotTellSheetsAndFindings(Check c) {
        SneezeGuard x = general();
        long before = x.digest();
        lay(x, 0, INTS, 1, 2, 3);
        x.lose(1);
        c.due("count(8)", x.count(8), 1);
        c.due("digest()", x.digest(), before);
        c.due("digest(): once more", x.digest(), before);
    }
}
