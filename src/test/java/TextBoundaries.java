/** Texts, POSTS and PEOPLE at their edges: 'What it is', 'Terms', promises 1 to 7. */
final class TextBoundaries extends Guards {
    private static final String CELLS = "THE WALL has CELLS 0 to 9, one behind the other.";
    private static final String POSTS = "POSTS are a text of up to 23 bytes (text 0), 8 at most (0 on), with ; between them: "
        + "a figure 0 to 9, the CELL, and a figure 0 to 3, how HARD of hearing.";
    private static final String PEOPLE = "PEOPLE are a text of up to 29 bytes (text 1), 6 at most (0 on), with ; between them: "
        + "p (a princess, LOUD 2), c (common, 4) or g (a general, 7), a figure 0 to 9, the CELL in HOUR 0, "
        + "e (WAY 0: to more) or w (WAY 1: to less), and a figure 1 to 9, the COLD.";
    private static final String FAULT = "The FAULT of a text is the place of the first byte with which it cannot go on "
        + "(an empty one is well; of one that is not ended, as behind a ;, its end), "
        + "here also of the first byte of a ninth POST, of a seventh of PEOPLE.";

    private static void faultDue(Check c, int text, String told, int want) {
        SneezeGuard x = new SneezeGuard();
        tell(x, text, told);
        c.due("fault(" + text + ") of \"" + told + "\"", x.fault(text), want);
        int things = want != NONE || told.isEmpty() ? 0 : told.split(";").length;
        c.due("count(" + text + ") of \"" + told + "\"", x.count(text), things);
    }

    /** Of all bytes at one place only the signs told may stand there. */
    private static void onlySigns(Check c, int text, String ahead, String signs, String behind) {
        for (char b = 0; b < 256; b++) {
            boolean may = signs.indexOf(b) >= 0;
            faultDue(c, text, ahead + b + behind, may ? NONE : ahead.length());
        }
    }

    // ---- What it is

    @Sentence(in = "What it is", says = CELLS)
    static void wall_hasCells0To9AndNoMore(Check c) {
        SneezeGuard x = guard("00;90", "p0e9;p9w9");
        c.due("post(0, 0)", x.post(0, 0), 0);
        c.due("post(1, 0)", x.post(1, 0), 9);
        c.due("event(0, 0, 0)", x.event(PEPPER, 0, 0), 1);
        c.due("event(0, 0, 9)", x.event(PEPPER, 0, 9), 2);
        c.due("event(0, 0, 10)", x.event(PEPPER, 0, 10), BAD);
        c.due("event(0, 0, -1)", x.event(PEPPER, 0, -1), BAD);
        c.due("changes(0): in both ends", x.changes(0), 3);
    }

    @Sentence(in = "What it is", says = CELLS)
    static void wall_isWalkedCellByCellAndNeverLeft(Check c) {
        SneezeGuard x = guard("", "p0e9;p9w9;p9e9;p0w9");
        for (int person = 0; person < 4; person++) {
            int cells = 0;
            for (int hour = 0; hour < 24; hour++) {
                int cell = x.at(hour, person, 0);
                c.holds("in the wall: " + cell, cell >= 0 && cell <= 9);
                cells |= 1 << cell;
                if (hour > 0) c.due("one CELL on", Math.abs(cell - x.at(hour - 1, person, 0)), 1);
            }
            c.due("every CELL", cells, 1023);
        }
    }

    // ---- Terms: POSTS

    @Sentence(in = "Terms", says = POSTS)
    static void terms_posts_upTo23Bytes(Check c) {
        SneezeGuard x = new SneezeGuard();
        for (int i = 1; i <= 23; i++) c.due("byte " + i, x.type(0, "50;".charAt((i - 1) % 3)), i);
        c.due("a 24th byte", x.type(0, ';'), FULL);
        c.due("count(2)", x.count(2), 23);
        c.due("fault(0)", x.fault(0), NONE);
    }

    @Sentence(in = "Terms", says = POSTS)
    static void terms_posts_8AtMost0On(Check c) {
        SneezeGuard x = guard(EIGHT_POSTS, "");
        c.due("count(0)", x.count(0), 8);
        for (int post = 0; post < 8; post++) c.due("post(" + post + ", 0)", x.post(post, 0), post);
        c.due("post(8, 0)", x.post(8, 0), BAD);
        c.due("post(-1, 0)", x.post(-1, 0), BAD);
        c.due("forgotten(): all eight have bits", x.forgotten(), 255);
        faultDue(c, 0, "00", NONE);
    }

    @Sentence(in = "Terms", says = POSTS)
    static void terms_posts_semicolonBetween(Check c) {
        onlySigns(c, 0, "50", ";", "00");
        faultDue(c, 0, ";50", 0);
        faultDue(c, 0, "50;;00", 3);
        faultDue(c, 0, "50;00;", 6);
    }

    @Sentence(in = "Terms", says = POSTS)
    static void terms_posts_cellIsFigure0To9(Check c) {
        onlySigns(c, 0, "", "0123456789", "0");
        onlySigns(c, 0, "50;", "0123456789", "3");
        for (int cell = 0; cell < 10; cell++) c.due("post(1, 0)", guard("50;" + cell + "3", "").post(1, 0), cell);
    }

    @Sentence(in = "Terms", says = POSTS)
    static void terms_posts_hardIsFigure0To3(Check c) {
        onlySigns(c, 0, "5", "0123", "");
        onlySigns(c, 0, "50;9", "0123", ";00");
        for (int hard = 0; hard < 4; hard++) c.due("post(1, 1)", guard("50;9" + hard, "").post(1, 1), hard);
    }

    // ---- Terms: PEOPLE

    @Sentence(in = "Terms", says = PEOPLE)
    static void terms_people_upTo29Bytes(Check c) {
        SneezeGuard x = new SneezeGuard();
        for (int i = 1; i <= 29; i++) c.due("byte " + i, x.type(1, "g0e9;".charAt((i - 1) % 5)), i);
        c.due("a 30th byte", x.type(1, ';'), FULL);
        c.due("count(3)", x.count(3), 29);
        c.due("fault(1)", x.fault(1), NONE);
    }

    @Sentence(in = "Terms", says = PEOPLE)
    static void terms_people_6AtMost0On(Check c) {
        SneezeGuard x = guard("", SIX_PEOPLE);
        int[] colds = {1, 2, 3, 4, 5, 9};
        c.due("count(1)", x.count(1), 6);
        for (int person = 0; person < 6; person++) c.due("person(" + person + ", 3)", x.person(person, 3), colds[person]);
        c.due("person(6, 0)", x.person(6, 0), BAD);
        c.due("person(-1, 0)", x.person(-1, 0), BAD);
        x.event(FROST, 0, 0);
        for (int person = 0; person < 6; person++) c.due("at(0, " + person + ", 1)", x.at(0, person, 1), 1);
        faultDue(c, 1, "p0e1", NONE);
    }

    @Sentence(in = "Terms", says = PEOPLE)
    static void terms_people_semicolonBetween(Check c) {
        onlySigns(c, 1, "p0e1", ";", "g9w9");
        faultDue(c, 1, ";p0e1", 0);
        faultDue(c, 1, "p0e1;;g9w9", 5);
        faultDue(c, 1, "p0e1;g9w9;", 10);
    }

    @Sentence(in = "Terms", says = PEOPLE)
    static void terms_people_sortIsPOrCOrG(Check c) {
        onlySigns(c, 1, "", "pcg", "0e1");
        onlySigns(c, 1, "p0e1;", "pcg", "9w9");
        for (int sort = 0; sort < 3; sort++) c.due("person(0, 0)", guard("", "pcg".charAt(sort) + "0e1").person(0, 0), sort);
    }

    @Sentence(in = "Terms", says = PEOPLE)
    static void terms_people_princessIsLoud2Common4General7(Check c) {
        int[] loud = {2, 4, 7};
        for (int sort = 0; sort < 3; sort++) {
            for (int cell = 0; cell < 10; cell++) {
                SneezeGuard x = guard("00", "pcg".charAt(sort) + "" + cell + "e1");
                c.due("changes(0) by sort " + sort + " from " + cell, x.changes(0), cell <= loud[sort] ? 1 : 0);
            }
        }
    }

    @Sentence(in = "Terms", says = PEOPLE)
    static void terms_people_cellIsFigure0To9(Check c) {
        onlySigns(c, 1, "c", "0123456789", "w5");
        onlySigns(c, 1, "p0e1;g", "0123456789", "e1");
        for (int cell = 0; cell < 10; cell++) {
            SneezeGuard x = guard("", "p0e1;g" + cell + "w9");
            c.due("person(1, 1)", x.person(1, 1), cell);
            c.due("at(0, 1, 0): in HOUR 0", x.at(0, 1, 0), cell);
        }
    }

    @Sentence(in = "Terms", says = PEOPLE)
    static void terms_people_wayIsEToMoreOrWToLess(Check c) {
        onlySigns(c, 1, "c5", "ew", "5");
        onlySigns(c, 1, "p0e1;g5", "ew", "1;p0e1");
        SneezeGuard x = guard("", "p5e9;p5w9");
        c.due("person(0, 2)", x.person(0, 2), 0);
        c.due("person(1, 2)", x.person(1, 2), 1);
        c.due("at(1, 0, 0): to more", x.at(1, 0, 0), 6);
        c.due("at(1, 1, 0): to less", x.at(1, 1, 0), 4);
    }

    @Sentence(in = "Terms", says = PEOPLE)
    static void terms_people_coldIsFigure1To9(Check c) {
        onlySigns(c, 1, "c5w", "123456789", "");
        onlySigns(c, 1, "p0e1;g5e", "123456789", ";p0e1");
        for (int cold = 1; cold < 10; cold++) c.due("person(0, 3)", guard("", "c5w" + cold).person(0, 3), cold);
    }

    // ---- Terms: FAULT

    @Sentence(in = "Terms", says = FAULT)
    static void terms_fault_isTheFirstByteWithWhichItCannotGoOn(Check c) {
        faultDue(c, 0, "x", 0);
        faultDue(c, 0, "5x", 1);
        faultDue(c, 0, "50x", 2);
        faultDue(c, 0, "50;x0;x0", 3);
        faultDue(c, 0, "50;04;x0", 4);
        faultDue(c, 0, "50;50;50;50;50;50;50;5x", 22);
        faultDue(c, 1, "p0e1;p0e0;x", 8);
        faultDue(c, 1, "g0e9;g0e9;g0e9;g0e9;g0e9;g0ex", 28);
    }

    @Sentence(in = "Terms", says = FAULT)
    static void terms_fault_anEmptyTextIsWell(Check c) {
        faultDue(c, 0, "", NONE);
        faultDue(c, 1, "", NONE);
        SneezeGuard x = guard("x", "x");
        x.undo(0);
        x.wipe(1);
        c.due("fault(0) of one undone", x.fault(0), NONE);
        c.due("fault(1) of one wiped", x.fault(1), NONE);
    }

    @Sentence(in = "Terms", says = FAULT)
    static void terms_fault_ofOneNotEndedIsItsEnd(Check c) {
        for (int n = 1; n <= EIGHT_POSTS.length(); n++) {
            faultDue(c, 0, EIGHT_POSTS.substring(0, n), n % 3 == 2 ? NONE : n);
        }
        for (int n = 1; n <= SIX_PEOPLE.length(); n++) {
            faultDue(c, 1, SIX_PEOPLE.substring(0, n), n % 5 == 4 ? NONE : n);
        }
    }

    @Sentence(in = "Terms", says = FAULT)
    static void terms_fault_aNinthPostFindsNoRoom(Check c) {
        SneezeGuard x = guard(EIGHT_POSTS, "");
        for (char b : ";00".toCharArray()) c.due("type(0, " + b + ")", x.type(0, b), FULL);
        c.due("fault(0)", x.fault(0), NONE);
        c.due("count(0)", x.count(0), 8);
        x.undo(0);
        x.undo(0);
        c.due("fault(0) behind the seventh's ;", x.fault(0), 21);
    }

    @Sentence(in = "Terms", says = FAULT)
    static void terms_fault_aSeventhOfPeopleFindsNoRoom(Check c) {
        SneezeGuard x = guard("", SIX_PEOPLE);
        for (char b : ";p0e1".toCharArray()) c.due("type(1, " + b + ")", x.type(1, b), FULL);
        c.due("fault(1)", x.fault(1), NONE);
        c.due("count(1)", x.count(1), 6);
        for (int i = 0; i < 4; i++) x.undo(1);
        c.due("fault(1) behind the fifth's ;", x.fault(1), 25);
    }

    @Sentence(in = "Terms", says = "With a FAULT a text is as if it was empty.")
    static void terms_fault_ofPostsThereAreNone(Check c) {
        SneezeGuard x = guard("50;00", "g0e1");
        x.type(0, ';');
        c.due("count(0)", x.count(0), 0);
        c.due("post(0, 0)", x.post(0, 0), BAD);
        c.due("stood(0, 0, 0)", x.stood(0, 0, 0), BAD);
        c.due("changes(0)", x.changes(0), 0);
        c.due("forgotten()", x.forgotten(), 0);
        c.due("longest(0)", x.longest(0), NONE);
        c.due("all()", x.all(), 0);
        c.due("stroll(0, 1)", x.stroll(0, 1), 0);
        c.due("count(1): the other text has none", x.count(1), 1);
        c.due("count(2): its bytes stay", x.count(2), 6);
        c.due("undo(0)", x.undo(0), 5);
        c.due("count(0): once more", x.count(0), 2);
        c.due("changes(0): once more", x.changes(0), 3);
    }

    @Sentence(in = "Terms", says = "With a FAULT a text is as if it was empty.")
    static void terms_fault_ofPeopleThereAreNone(Check c) {
        SneezeGuard x = guard("50;00", "g0e1");
        x.type(1, ';');
        c.due("count(1)", x.count(1), 0);
        c.due("person(0, 0)", x.person(0, 0), BAD);
        c.due("at(0, 0, 0)", x.at(0, 0, 0), BAD);
        c.due("changes(0)", x.changes(0), 0);
        c.due("busy()", x.busy(), NONE);
        c.due("quiet()", x.quiet(), 0);
        c.due("hush(0, 0)", x.hush(0, 0), NONE);
        c.due("longest(2)", x.longest(2), 24);
        c.due("count(0): the other text has none", x.count(0), 2);
        c.due("count(3): its bytes stay", x.count(3), 5);
        c.due("undo(1)", x.undo(1), 4);
        c.due("count(1): once more", x.count(1), 1);
        c.due("changes(0): once more", x.changes(0), 3);
    }

    // ---- Promise 1

    @Sentence(in = "Promise 1: A new object", says = "No POSTS, no PEOPLE, no EVENTS;")
    static void promise01_new_hasNoPostsNoPeopleNoEvents(Check c) {
        SneezeGuard x = new SneezeGuard();
        for (int what = 0; what <= 8; what++) c.due("count(" + what + ")", x.count(what), 0);
        c.due("post(0, 0)", x.post(0, 0), BAD);
        c.due("person(0, 0)", x.person(0, 0), BAD);
        c.due("undo(0)", x.undo(0), NOT);
        c.due("undo(1)", x.undo(1), NOT);
        c.due("back()", x.back(), NOT);
        c.due("never()", x.never(), 0);
    }

    @Sentence(in = "Promise 1: A new object", says = "all SHEETS are LOST.")
    static void promise01_new_allSheetsAreLost(Check c) {
        SneezeGuard x = new SneezeGuard();
        for (int s = 0; s < 4; s++) {
            c.due("read(" + s + ")", x.read(s), NULL);
            c.due("lose(" + s + ")", x.lose(s), NULL);
            for (int form = 0; form < 3; form++) c.due("lay(" + s + ", " + form + ", 0, 1)", x.lay(s, form, 0, 1), NULL);
        }
    }

    @Sentence(in = "Promise 1: A new object", says = "`SneezeGuard()`: No POSTS, no PEOPLE, no EVENTS; all SHEETS are LOST.")
    static void promise01_new_hasNothingOfAnother(Check c) {
        SneezeGuard other = guard(EIGHT_POSTS, SIX_PEOPLE);
        long fresh = new SneezeGuard().digest();
        withEvents(other, frost(3), held(4, 1));
        other.seen(3, 0, 1);
        other.sheet(0, INTS, 4);
        long before = other.digest();
        SneezeGuard x = new SneezeGuard();
        c.due("digest()", x.digest(), fresh);
        c.due("lose(0)", x.lose(0), NULL);
        tell(x, 0, "50");
        c.due("digest() of the other one", other.digest(), before);
        c.due("lose(0) of the other one", other.lose(0), 4);
    }

    // ---- Promise 2: type

    @Sentence(in = "Promise 2: type", says = "A byte (0 to 255) comes behind a text: how many.")
    static void promise02_type_bytes0And255Come(Check c) {
        for (int text = 0; text < 2; text++) {
            SneezeGuard x = new SneezeGuard();
            c.due("type(" + text + ", 0)", x.type(text, 0), 1);
            c.due("type(" + text + ", 255)", x.type(text, 255), 2);
            c.due("count(" + (2 + text) + ")", x.count(2 + text), 2);
            c.due("count(" + (3 - text) + "): the other has none", x.count(3 - text), 0);
        }
    }

    @Sentence(in = "Promise 2: type", says = "A byte (0 to 255) comes behind a text: how many.")
    static void promise02_type_everyByteIsItself(Check c) {
        // 48 and 128 more or less are other bytes, and no figures.
        faultDue(c, 0, "" + (char) (48 + 128) + "0", 0);
        faultDue(c, 1, "p0e" + (char) (49 + 128), 3);
        SneezeGuard x = new SneezeGuard();
        for (int b = 0; b < 256; b++) {
            c.due("type(0, " + b + ")", x.type(0, b), 1);
            c.due("fault(0)", x.fault(0), b >= '0' && b <= '9' ? 1 : 0);
            if (b < 127) x.undo(0); else x = new SneezeGuard();
        }
    }

    @Sentence(in = "Promise 2: type", says = "BAD; FULL.")
    static void promise02_type_badText(Check c) {
        SneezeGuard x = new SneezeGuard();
        for (int n : outside(2)) c.due("type(" + n + ", 53)", x.type(n, '5'), BAD);
        c.due("count(2)", x.count(2), 0);
        c.due("count(3)", x.count(3), 0);
    }

    @Sentence(in = "Promise 2: type", says = "BAD; FULL.")
    static void promise02_type_badByte(Check c) {
        SneezeGuard x = new SneezeGuard();
        for (int text = 0; text < 2; text++) {
            for (int n : outside(256)) c.due("type(" + text + ", " + n + ")", x.type(text, n), BAD);
            // The lowest bits alone would be a figure 5.
            for (int n : new int[] {53 + 256, 53 - 256, 53 + 65536}) c.due("type(" + text + ", " + n + ")", x.type(text, n), BAD);
            c.due("count(" + (2 + text) + ")", x.count(2 + text), 0);
        }
    }

    @Sentence(in = "Promise 2: type", says = "BAD; FULL.")
    static void promise02_type_fullOfPosts(Check c) {
        SneezeGuard x = guard(EIGHT_POSTS, "");
        long before = x.digest();
        c.due("type(0, 59)", x.type(0, ';'), FULL);
        c.due("type(0, 0)", x.type(0, 0), FULL);
        c.due("digest(): as it was", x.digest(), before);
        c.due("type(1, 112): the other is not", x.type(1, 'p'), 1);
        x.undo(0);
        c.due("type(0, 51): room for one more", x.type(0, '3'), 23);
        c.due("type(0, 51)", x.type(0, '3'), FULL);
        x.wipe(0);
        c.due("type(0, 51): room for all", x.type(0, '3'), 1);
    }

    @Sentence(in = "Promise 2: type", says = "BAD; FULL.")
    static void promise02_type_fullOfPeople(Check c) {
        SneezeGuard x = guard("", SIX_PEOPLE);
        long before = x.digest();
        c.due("type(1, 59)", x.type(1, ';'), FULL);
        c.due("type(1, 255)", x.type(1, 255), FULL);
        c.due("digest(): as it was", x.digest(), before);
        c.due("type(0, 53): the other is not", x.type(0, '5'), 1);
        x.undo(1);
        c.due("type(1, 57): room for one more", x.type(1, '9'), 29);
        c.due("type(1, 57)", x.type(1, '9'), FULL);
    }

    @Sentence(in = "Promise 2: type", says = "BAD; FULL.")
    static void promise02_type_badAheadOfFull(Check c) {
        SneezeGuard x = guard(EIGHT_POSTS, SIX_PEOPLE);
        for (int text = 0; text < 2; text++) {
            c.due("type(" + text + ", 256)", x.type(text, 256), BAD);
            c.due("type(" + text + ", -1)", x.type(text, -1), BAD);
        }
        c.due("type(2, 53)", x.type(2, '5'), BAD);
    }

    // ---- Promise 3: wipe

    @Sentence(in = "Promise 3: wipe", says = "A text is empty: how many bytes it had.")
    static void promise03_wipe_ofAnEmptyTextIs0(Check c) {
        SneezeGuard x = new SneezeGuard();
        c.due("wipe(0)", x.wipe(0), 0);
        c.due("wipe(1)", x.wipe(1), 0);
    }

    @Sentence(in = "Promise 3: wipe", says = "A text is empty: how many bytes it had.")
    static void promise03_wipe_ofAFullText(Check c) {
        SneezeGuard x = guard(EIGHT_POSTS, SIX_PEOPLE);
        c.due("wipe(0)", x.wipe(0), 23);
        c.due("count(0)", x.count(0), 0);
        c.due("count(2)", x.count(2), 0);
        c.due("fault(0)", x.fault(0), NONE);
        c.due("changes(0)", x.changes(0), 0);
        c.due("wipe(0): once more", x.wipe(0), 0);
        c.due("count(1): the other is as it was", x.count(1), 6);
        c.due("wipe(1)", x.wipe(1), 29);
        c.due("count(1)", x.count(1), 0);
        c.due("count(3)", x.count(3), 0);
        c.due("digest(): as a new object", x.digest(), new SneezeGuard().digest());
    }

    @Sentence(in = "Promise 3: wipe", says = "A text is empty: how many bytes it had.")
    static void promise03_wipe_ofATextWithAFault(Check c) {
        SneezeGuard x = guard("x50", "g");
        c.due("wipe(0)", x.wipe(0), 3);
        c.due("wipe(1)", x.wipe(1), 1);
        c.due("fault(0)", x.fault(0), NONE);
        c.due("fault(1)", x.fault(1), NONE);
    }

    @Sentence(in = "Promise 3: wipe", says = "BAD.")
    static void promise03_wipe_bad(Check c) {
        SneezeGuard x = general();
        for (int n : outside(2)) c.due("wipe(" + n + ")", x.wipe(n), BAD);
        c.due("count(2)", x.count(2), 2);
        c.due("count(3)", x.count(3), 4);
    }

    // ---- Promise 4: undo

    @Sentence(in = "Promise 4: undo", says = "The last byte of a text is undone: how many are left.")
    static void promise04_undo_toTheLast(Check c) {
        SneezeGuard x = guard(EIGHT_POSTS, SIX_PEOPLE);
        for (int left = 22; left >= 0; left--) c.due("undo(0)", x.undo(0), left);
        c.due("count(3): the other is as it was", x.count(3), 29);
        for (int left = 28; left >= 0; left--) c.due("undo(1)", x.undo(1), left);
        c.due("digest(): as a new object", x.digest(), new SneezeGuard().digest());
    }

    @Sentence(in = "Promise 4: undo", says = "BAD; NOT: it is empty.")
    static void promise04_undo_badText(Check c) {
        SneezeGuard x = general();
        for (int n : outside(2)) c.due("undo(" + n + ")", x.undo(n), BAD);
        c.due("count(2)", x.count(2), 2);
        c.due("count(3)", x.count(3), 4);
    }

    @Sentence(in = "Promise 4: undo", says = "BAD; NOT: it is empty.")
    static void promise04_undo_notWhereItIsEmpty(Check c) {
        SneezeGuard x = guard("5", "");
        c.due("undo(1)", x.undo(1), NOT);
        c.due("undo(1): once more", x.undo(1), NOT);
        c.due("undo(0): the other is not", x.undo(0), 0);
        c.due("undo(0)", x.undo(0), NOT);
        c.due("count(2)", x.count(2), 0);
        c.due("type(0, 53)", x.type(0, '5'), 1);
    }

    // ---- Promise 5: fault

    @Sentence(in = "Promise 5: fault", says = "The FAULT of a text; NONE.")
    static void promise05_fault_noneWhereItIsWell(Check c) {
        SneezeGuard x = guard("50", "g0e");
        c.due("fault(0)", x.fault(0), NONE);
        c.due("fault(1): the other text's", x.fault(1), 3);
        x.type(1, '9');
        c.due("fault(1)", x.fault(1), NONE);
        x.type(0, ';');
        c.due("fault(0)", x.fault(0), 3);
    }

    @Sentence(in = "Promise 5: fault", says = "The FAULT of a text; NONE.")
    static void promise05_fault_0IsNotNone(Check c) {
        SneezeGuard x = guard("x", ";");
        c.due("fault(0)", x.fault(0), 0);
        c.due("fault(1)", x.fault(1), 0);
    }

    @Sentence(in = "Promise 5: fault", says = "BAD.")
    static void promise05_fault_bad(Check c) {
        SneezeGuard x = general();
        for (int n : outside(2)) c.due("fault(" + n + ")", x.fault(n), BAD);
    }

    // ---- Promise 6: post

    @Sentence(in = "Promise 6: post", says = "The CELL (what = 0), how HARD of hearing (1) of a POST.")
    static void promise06_post_firstAndLast(Check c) {
        SneezeGuard x = guard("90;11;22;33;40;51;62;03", "");
        c.due("post(0, 0)", x.post(0, 0), 9);
        c.due("post(0, 1)", x.post(0, 1), 0);
        c.due("post(7, 0)", x.post(7, 0), 0);
        c.due("post(7, 1)", x.post(7, 1), 3);
    }

    @Sentence(in = "Promise 6: post", says = "BAD.")
    static void promise06_post_badPost(Check c) {
        SneezeGuard x = guard("50;93", "");
        for (int n : outside(2)) {
            c.due("post(" + n + ", 0)", x.post(n, 0), BAD);
            c.due("post(" + n + ", 1)", x.post(n, 1), BAD);
        }
        x.wipe(0);
        c.due("post(0, 0) where there are none", x.post(0, 0), BAD);
    }

    @Sentence(in = "Promise 6: post", says = "BAD.")
    static void promise06_post_badWhat(Check c) {
        SneezeGuard x = guard("50;93", "");
        for (int n : outside(2)) c.due("post(0, " + n + ")", x.post(0, n), BAD);
    }

    // ---- Promise 7: person

    @Sentence(in = "Promise 7: person", says = "The sort (what = 0: 0 p, 1 c, 2 g), CELL (1), WAY (2), COLD (3) of a PERSON as told.")
    static void promise07_person_firstAndLast(Check c) {
        SneezeGuard x = guard("", "p9w9;c1w2;g2e3;p3w4;c4e5;g0e1");
        int[] first = {0, 9, 1, 9}, last = {2, 0, 0, 1};
        for (int what = 0; what < 4; what++) {
            c.due("person(0, " + what + ")", x.person(0, what), first[what]);
            c.due("person(5, " + what + ")", x.person(5, what), last[what]);
        }
    }

    @Sentence(in = "Promise 7: person", says = "The sort (what = 0: 0 p, 1 c, 2 g), CELL (1), WAY (2), COLD (3) of a PERSON as told.")
    static void promise07_person_asToldWhateverComes(Check c) {
        // Both turn at once and have caught it behind HOUR 0.
        SneezeGuard x = withEvents(guard("50", "g9e9;c9e8"), frost(0));
        x.stroll(0, 0);
        x.was(0, 0);
        x.was(0, 1);
        c.due("at(0, 0, 3)", x.at(0, 0, 3), 8);
        int[] told = {2, 9, 0, 9};
        for (int what = 0; what < 4; what++) c.due("person(0, " + what + ")", x.person(0, what), told[what]);
    }

    @Sentence(in = "Promise 7: person", says = "BAD.")
    static void promise07_person_badPerson(Check c) {
        SneezeGuard x = guard("", "p0e1;c9w9");
        for (int n : outside(2)) {
            for (int what = 0; what < 4; what++) c.due("person(" + n + ", " + what + ")", x.person(n, what), BAD);
        }
        x.wipe(1);
        c.due("person(0, 0) where there are none", x.person(0, 0), BAD);
    }

    @Sentence(in = "Promise 7: person", says = "BAD.")
    static void promise07_person_badWhat(Check c) {
        SneezeGuard x = guard("", "p0e1;c9w9");
        for (int n : outside(4)) c.due("person(0, " + n + ")", x.person(0, n), BAD);
    }
}
