/** What is behind an HOUR, and of all HOURS, at its edges: 2 of 'Terms', promises 11 to 18. */
final class HourBoundaries extends Guards {
    private static final String OF_A_PERSON = "Behind an HOUR of a PERSON: the CELL; whether one SNEEZED in it; "
        + "how often by then; the COLD (as for the next HOUR).";
    private static final String OF_A_POST = "Of a POST: how long it has STOOD; how often it was CHANGED by then; "
        + "by whom in that HOUR (NONE).";
    private static final String CHANGES = "CHANGES in an HOUR, as bits of POSTS.";
    private static final String FORGOTTEN = "FORGOTTEN: POSTS that ever STOOD for 12 HOURS or more, as bits.";
    private static final String LONGEST = "LONGEST: the HOUR behind which any has STOOD most, of like ones the least; "
        + "the least such POST; how long; NONE: there are none.";
    private static final String ALL = "ALL: CHANGES of all HOURS together.";
    private static final String BUSY = "BUSY: who CHANGED most POSTS (as the least each time), of like ones the least; "
        + "NONE: nobody did.";
    private static final String QUIET = "QUIET: PEOPLE that never SNEEZE, as bits.";
    private static final String AT = "The CELL (what = 0), whether one SNEEZED (1: 1, 0), how often by then (2), the COLD (3).";
    private static final String STOOD = "How long it has STOOD (what = 0), how often CHANGED (1), by whom in that HOUR (2; NONE).";
    private static final String TOLD_LONGEST = "LONGEST: the HOUR (what = 0), the POST (1), how long (2); NONE.";

    private static void longestDue(Check c, SneezeGuard x, int hour, int post, int howLong) {
        c.due("longest(0)", x.longest(0), hour);
        c.due("longest(1)", x.longest(1), post);
        c.due("longest(2)", x.longest(2), howLong);
    }

    // ---- 2

    @Sentence(in = "Terms", says = OF_A_PERSON)
    static void two_person_howOftenByThenCountsFirstAndLastHour(Check c) {
        SneezeGuard x = withEvents(general(), frost(0), frost(23));
        c.due("at(0, 0, 2)", x.at(0, 0, 2), 1);
        c.due("at(7, 0, 2)", x.at(7, 0, 2), 1);
        c.due("at(8, 0, 2)", x.at(8, 0, 2), 2);
        c.due("at(22, 0, 2)", x.at(22, 0, 2), 3);
        c.due("at(23, 0, 2)", x.at(23, 0, 2), 4);
        c.due("at(23, 0, 2) at most", guard("", "p0e1").at(23, 0, 2), 24);
        c.due("at(23, 0, 2) at least", withEvents(general(), held(8, 0), held(17, 0)).at(23, 0, 2), 0);
    }

    @Sentence(in = "Terms", says = OF_A_PERSON)
    static void two_person_theColdIsAsForTheNextHour(Check c) {
        SneezeGuard x = withEvents(guard("", "c0e9;c0e9"), frost(0));
        c.due("at(0, 0, 3): caught in the first", x.at(0, 0, 3), 8);
        // 8 divides 8, 7 divides 14, 6 divides 18, 5 divides 20, 4 divides 24.
        c.due("at(6, 0, 3)", x.at(6, 0, 3), 8);
        c.due("at(7, 0, 3)", x.at(7, 0, 3), 7);
        c.due("at(13, 0, 3)", x.at(13, 0, 3), 6);
        c.due("at(17, 0, 3)", x.at(17, 0, 3), 5);
        c.due("at(19, 0, 3)", x.at(19, 0, 3), 4);
        c.due("at(22, 0, 3)", x.at(22, 0, 3), 4);
        c.due("at(23, 0, 3): caught in the last", x.at(23, 0, 3), 3);
    }

    @Sentence(in = "Terms", says = OF_A_POST)
    static void two_post_howOftenByThenCountsFirstAndLastHour(Check c) {
        SneezeGuard x = withEvents(general(), frost(0), frost(23));
        c.due("stood(0, 0, 1)", x.stood(0, 0, 1), 1);
        c.due("stood(7, 0, 1)", x.stood(7, 0, 1), 1);
        c.due("stood(8, 0, 1)", x.stood(8, 0, 1), 2);
        c.due("stood(22, 0, 1)", x.stood(22, 0, 1), 3);
        c.due("stood(23, 0, 1)", x.stood(23, 0, 1), 4);
        c.due("stood(23, 0, 1) at most", guard("50", "g0e1").stood(23, 0, 1), 24);
        c.due("stood(23, 0, 1) at least", guard("50", "").stood(23, 0, 1), 0);
    }

    @Sentence(in = "Terms", says = OF_A_POST)
    static void two_post_byNobodyIsNone(Check c) {
        SneezeGuard x = general();
        for (int hour = 0; hour < 24; hour++) {
            c.due("stood(" + hour + ", 0, 2)", x.stood(hour, 0, 2), hour == 8 || hour == 17 ? 0 : NONE);
        }
        // The one POST is CHANGED, the other, HARD of hearing and far, is not.
        x = guard("50;93", "c0e1");
        c.due("stood(1, 0, 2)", x.stood(1, 0, 2), 0);
        c.due("stood(1, 1, 2)", x.stood(1, 1, 2), NONE);
    }

    @Sentence(in = "Terms", says = CHANGES)
    static void two_changes_bitsOfTheFirstAndTheLastPost(Check c) {
        SneezeGuard x = guard("03;43;43;43;43;43;43;93", "g0e9");
        c.due("changes(0)", x.changes(0), 0);
        c.due("changes(8): from CELL 8 all but the first hear", x.changes(8), 254);
        x.event(PEPPER, 0, 0);
        c.due("changes(0): from CELL 0 all but the last hear", x.changes(0), 127);
        x.event(HELD, 8, 0);
        c.due("changes(8)", x.changes(8), 0);
        c.due("changes(0) of all eight", guard(EIGHT_POSTS, "g4e1").changes(0), 255);
        c.due("changes(0) where there are none", guard("", "g4e1").changes(0), 0);
    }

    @Sentence(in = "Terms", says = FORGOTTEN)
    static void two_forgotten_from12On(Check c) {
        // CHANGED in HOUR 8, it stands from 9 to the FROST.
        SneezeGuard x = withEvents(general(), held(17, 0), frost(20));
        c.due("longest(2)", x.longest(2), 11);
        c.due("forgotten() of one that stood for 11", x.forgotten(), 0);
        x = withEvents(general(), held(17, 0), frost(21));
        c.due("longest(2)", x.longest(2), 12);
        c.due("forgotten() of one that stood for 12", x.forgotten(), 1);
        x = withEvents(general(), held(17, 0), frost(22));
        c.due("forgotten() of one that stood for 13", x.forgotten(), 1);
    }

    @Sentence(in = "Terms", says = FORGOTTEN)
    static void two_forgotten_from12OnOfTheFirstHours(Check c) {
        c.due("forgotten(): 0 to 10", withEvents(general(), held(8, 0), frost(11)).forgotten(), 0);
        c.due("forgotten(): 0 to 11", withEvents(general(), held(8, 0), frost(12)).forgotten(), 1);
    }

    @Sentence(in = "Terms", says = FORGOTTEN)
    static void two_forgotten_from12OnOfTheLastHours(Check c) {
        c.due("forgotten(): 13 to 23", withEvents(general(), held(17, 0), frost(12)).forgotten(), 0);
        c.due("forgotten(): 12 to 23", withEvents(general(), held(17, 0), frost(11)).forgotten(), 1);
    }

    @Sentence(in = "Terms", says = FORGOTTEN)
    static void two_forgotten_everStoodAndChangedSince(Check c) {
        SneezeGuard x = withEvents(general(), held(8, 0), frost(12), frost(13), frost(23));
        c.due("forgotten()", x.forgotten(), 1);
        c.due("stood(23, 0, 0)", x.stood(23, 0, 0), 0);
    }

    @Sentence(in = "Terms", says = FORGOTTEN)
    static void two_forgotten_bitsOfTheFirstAndTheLastPost(Check c) {
        c.due("forgotten() of all eight", guard(EIGHT_POSTS, "").forgotten(), 255);
        // In CELL 0 and so HARD of hearing he is not heard from CELL 8 in HOUR 8.
        c.due("forgotten(): the last", guard("50;50;50;50;50;50;50;03", "g0e9").forgotten(), 128);
        c.due("forgotten(): the first", guard("03;50;50;50;50;50;50;50", "g0e9").forgotten(), 1);
        c.due("forgotten() where there are none", guard("", "g0e9").forgotten(), 0);
    }

    @Sentence(in = "Terms", says = LONGEST)
    static void two_longest_ofLikeHoursTheLeast(Check c) {
        // It stands for 8 behind HOUR 7 and behind HOUR 16.
        longestDue(c, general(), 7, 0, 8);
        longestDue(c, withEvents(general(), frost(7)), 16, 0, 8);
    }

    @Sentence(in = "Terms", says = LONGEST)
    static void two_longest_ofOneAlwaysChangedIs0BehindHour0(Check c) {
        longestDue(c, guard("50", "g0e1"), 0, 0, 0);
        longestDue(c, guard("50;50;50;50;50;50;50;50", "g0e1"), 0, 0, 0);
    }

    @Sentence(in = "Terms", says = LONGEST)
    static void two_longest_ofOneNeverChangedIs24BehindHour23(Check c) {
        longestDue(c, guard("50", ""), 23, 0, 24);
    }

    @Sentence(in = "Terms", says = LONGEST)
    static void two_longest_ofLikePostsTheLeast(Check c) {
        longestDue(c, guard(EIGHT_POSTS, ""), 23, 0, 24);
        // Those in CELL 9 hear the common one in HOURS 8 to 10 alone; the first is never long without.
        longestDue(c, guard("50;93;93", "c0e1"), 23, 1, 13);
        longestDue(c, guard("50;50;50;50;50;50;50;00", "g0e9"), 16, 7, 17);
    }

    @Sentence(in = "Terms", says = LONGEST)
    static void two_longest_theLeastHourAheadOfTheLeastPost(Check c) {
        // POST 0 is CHANGED in 4 and 17: 12 behind 16. POST 1 is CHANGED in 12: 12 behind 11.
        SneezeGuard x = withEvents(guard("03;93", "g0e9"), held(8, 0), frost(4), frost(12));
        longestDue(c, x, 11, 1, 12);
        c.due("stood(16, 0, 0)", x.stood(16, 0, 0), 12);
    }

    @Sentence(in = "Terms", says = LONGEST)
    static void two_longest_noneWhereThereAreNoPosts(Check c) {
        longestDue(c, guard("", "g0e9"), NONE, NONE, NONE);
        longestDue(c, new SneezeGuard(), NONE, NONE, NONE);
    }

    @Sentence(in = "Terms", says = ALL)
    static void two_all_fromNoneTo192(Check c) {
        c.due("all() of no PEOPLE", guard(EIGHT_POSTS, "").all(), 0);
        c.due("all() of no POSTS", guard("", SIX_PEOPLE).all(), 0);
        c.due("all() of every POST in every HOUR", guard("50;50;50;50;50;50;50;50", "g0e1").all(), 192);
    }

    @Sentence(in = "Terms", says = ALL)
    static void two_all_countsTheFirstAndTheLastHour(Check c) {
        c.due("all()", general().all(), 2);
        c.due("all() with one in HOUR 0", withEvents(general(), frost(0)).all(), 3);
        c.due("all() with one in HOUR 23", withEvents(general(), frost(23)).all(), 3);
        c.due("all() with one in HOUR 8, where one is", withEvents(general(), frost(8)).all(), 2);
    }

    @Sentence(in = "Terms", says = BUSY)
    static void two_busy_ofLikeOnesTheLeast(Check c) {
        // In HOURS 8 and 17 each is beside the one POST or the other: 2 and 2.
        c.due("busy(): 2 and 2", guard("00;90", "p0e9;p9w9").busy(), 0);
        c.due("busy(): 2 and 3", withEvents(guard("00;90", "p0e9;p9w9"), pepper(0, 9)).busy(), 1);
        c.due("busy(): 3 and 3", withEvents(guard("00;90", "p0e9;p9w9"), pepper(0, 9), pepper(0, 0)).busy(), 0);
        c.due("busy(): 1 and 2", withEvents(guard("00;90", "p0e9;p9w9"), held(8, 0)).busy(), 1);
        c.due("busy(): none and 1", withEvents(guard("00;90", "p0e9;p9w9"), held(8, 0), held(17, 0), held(8, 1)).busy(), 1);
    }

    @Sentence(in = "Terms", says = BUSY)
    static void two_busy_theLastOfSix(Check c) {
        c.due("busy()", guard("03;93", "p0e1;p2e1;p4e1;p6e1;p8e1;g1e9").busy(), 5);
    }

    @Sentence(in = "Terms", says = BUSY)
    static void two_busy_asTheLeastEachTime(Check c) {
        // The general alone is heard in each HOUR, the common one, ahead of him, in all but one.
        SneezeGuard x = guard("50", "c5e1;g5e1");
        c.due("stood(13, 0, 2)", x.stood(13, 0, 2), 1);
        c.due("all()", x.all(), 24);
        c.due("busy()", x.busy(), 0);
    }

    @Sentence(in = "Terms", says = BUSY)
    static void two_busy_noneWhereNobodyDid(Check c) {
        c.due("busy() of a new object", new SneezeGuard().busy(), NONE);
        c.due("busy() of no POSTS", guard("", SIX_PEOPLE).busy(), NONE);
        c.due("busy() of no PEOPLE", guard(EIGHT_POSTS, "").busy(), NONE);
        c.due("busy() of one not heard", guard("03", "p0e1").busy(), NONE);
        c.due("busy() of one who is HELD", withEvents(general(), held(8, 0), held(17, 0)).busy(), NONE);
    }

    @Sentence(in = "Terms", says = QUIET)
    static void two_quiet_bitsOfTheFirstAndTheLast(Check c) {
        SneezeGuard x = withEvents(guard("", "p0e1;p0e1;p0e1;p0e1;p0e1;g9w9"), held(8, 5), held(17, 5));
        c.due("quiet(): the last", x.quiet(), 32);
        x = withEvents(guard("", "g9w9;p0e1;p0e1;p0e1;p0e1;p0e1"), held(8, 0), held(17, 0));
        c.due("quiet(): the first", x.quiet(), 1);
        x = withEvents(guard("", "g9w9;p0e9"), held(8, 0), held(17, 0), held(8, 1), held(17, 1));
        c.due("quiet(): all", x.quiet(), 3);
        c.due("quiet(): none", general().quiet(), 0);
        c.due("quiet() of no PEOPLE", new SneezeGuard().quiet(), 0);
    }

    @Sentence(in = "Terms", says = QUIET)
    static void two_quiet_neverInTheFirstOrTheLastHour(Check c) {
        SneezeGuard x = withEvents(general(), held(8, 0), held(17, 0));
        c.due("quiet()", x.quiet(), 1);
        x.event(FROST, 0, 0);
        c.due("quiet() of one who did in HOUR 0", x.quiet(), 0);
        x.back();
        x.event(FROST, 23, 0);
        c.due("quiet() of one who did in HOUR 23", x.quiet(), 0);
        x.back();
        c.due("quiet(): not heard, but he did", withEvents(guard("", "p0e9"), held(8, 0)).quiet(), 0);
    }

    // ---- Promise 11: at

    @Sentence(in = "Promise 11: at", says = AT)
    static void promise11_at_firstAndLastOfAll(Check c) {
        SneezeGuard x = guard("", "g0e9;p0e1;p0e1;p0e1;p0e1;p9e9");
        int[] first = {9, 0, 0, 9};
        // In HOUR 23 she is in CELL 4; she meets nobody, and sneezed in 8 and 17.
        int[] last = {4, 0, 2, 9};
        for (int what = 0; what < 4; what++) {
            c.due("at(0, 5, " + what + ")", x.at(0, 5, what), first[what]);
            c.due("at(23, 5, " + what + ")", x.at(23, 5, what), last[what]);
        }
        c.due("at(8, 5, 1)", x.at(8, 5, 1), 1);
        c.due("at(0, 0, 0)", x.at(0, 0, 0), 0);
        c.due("at(0, 0, 3)", x.at(0, 0, 3), 8);
        c.due("at(23, 0, 0)", x.at(23, 0, 0), 5);
        c.due("at(23, 0, 3)", x.at(23, 0, 3), 1);
    }

    @Sentence(in = "Promise 11: at", says = "BAD.")
    static void promise11_at_badHour(Check c) {
        SneezeGuard x = general();
        for (int n : outside(24)) {
            for (int what = 0; what < 4; what++) c.due("at(" + n + ", 0, " + what + ")", x.at(n, 0, what), BAD);
        }
    }

    @Sentence(in = "Promise 11: at", says = "BAD.")
    static void promise11_at_badPerson(Check c) {
        SneezeGuard x = guard("50;00", "g0e9");
        for (int n : outside(1)) {
            for (int what = 0; what < 4; what++) c.due("at(0, " + n + ", " + what + ")", x.at(0, n, what), BAD);
        }
        x.wipe(1);
        c.due("at(0, 0, 0) of no PEOPLE", x.at(0, 0, 0), BAD);
        c.due("at(0, 6, 0) of six", guard("", SIX_PEOPLE).at(0, 6, 0), BAD);
    }

    @Sentence(in = "Promise 11: at", says = "BAD.")
    static void promise11_at_badWhat(Check c) {
        SneezeGuard x = general();
        for (int n : outside(4)) c.due("at(8, 0, " + n + ")", x.at(8, 0, n), BAD);
    }

    // ---- Promise 12: stood

    @Sentence(in = "Promise 12: stood", says = STOOD)
    static void promise12_stood_firstAndLastOfAll(Check c) {
        SneezeGuard x = withEvents(guard("90;93;93;93;93;93;93;00", "p0e1;p0e1;p0e1;p0e1;p0e1;p9w9"), held(0, 0));
        // In CELL 0 is she who is HELD, and the next one sneezes for her.
        int[] first = {0, 1, 1};
        for (int what = 0; what < 3; what++) c.due("stood(0, 7, " + what + ")", x.stood(0, 7, what), first[what]);
        c.due("stood(0, 0, 0)", x.stood(0, 0, 0), 1);
        c.due("stood(0, 0, 1)", x.stood(0, 0, 1), 0);
        c.due("stood(0, 0, 2)", x.stood(0, 0, 2), NONE);
        // They are by CELL 0 in 0 to 2 and 16 to 20, by CELL 9 in 7 to 11; the last one in 8 and 17.
        int[] last = {3, 9, NONE}, ofTheFirstPost = {6, 6, NONE};
        for (int what = 0; what < 3; what++) {
            c.due("stood(23, 7, " + what + ")", x.stood(23, 7, what), last[what]);
            c.due("stood(23, 0, " + what + ")", x.stood(23, 0, what), ofTheFirstPost[what]);
        }
        c.due("stood(17, 0, 2)", x.stood(17, 0, 2), 5);
        c.due("stood(8, 7, 2)", x.stood(8, 7, 2), 5);
    }

    @Sentence(in = "Promise 12: stood", says = "BAD.")
    static void promise12_stood_badHour(Check c) {
        SneezeGuard x = general();
        for (int n : outside(24)) {
            for (int what = 0; what < 3; what++) c.due("stood(" + n + ", 0, " + what + ")", x.stood(n, 0, what), BAD);
        }
    }

    @Sentence(in = "Promise 12: stood", says = "BAD.")
    static void promise12_stood_badPost(Check c) {
        SneezeGuard x = guard("50", "g0e9;p0e9");
        for (int n : outside(1)) {
            for (int what = 0; what < 3; what++) c.due("stood(0, " + n + ", " + what + ")", x.stood(0, n, what), BAD);
        }
        x.wipe(0);
        c.due("stood(0, 0, 0) of no POSTS", x.stood(0, 0, 0), BAD);
        c.due("stood(0, 8, 0) of eight", guard(EIGHT_POSTS, "").stood(0, 8, 0), BAD);
    }

    @Sentence(in = "Promise 12: stood", says = "BAD.")
    static void promise12_stood_badWhat(Check c) {
        SneezeGuard x = general();
        for (int n : outside(3)) c.due("stood(8, 0, " + n + ")", x.stood(8, 0, n), BAD);
    }

    // ---- Promises 13 to 18

    @Sentence(in = "Promise 13: changes", says = "CHANGES, as bits.")
    static void promise13_changes_firstAndLastHour(Check c) {
        SneezeGuard x = withEvents(guard("00;90", "p0e9;p9w9"), pepper(0, 9), frost(23));
        c.due("changes(0)", x.changes(0), 2);
        // In HOUR 23 they are in CELLS 5 and 4, not heard.
        c.due("changes(23)", x.changes(23), 0);
        c.due("changes(23) of one by the wall's middle", withEvents(guard("00;40", "p0e9;p9w9"), frost(23)).changes(23), 2);
    }

    @Sentence(in = "Promise 13: changes", says = "BAD.")
    static void promise13_changes_bad(Check c) {
        SneezeGuard x = guard("50", "g0e1");
        for (int n : outside(24)) c.due("changes(" + n + ")", x.changes(n), BAD);
        c.due("changes(24) of a new object", new SneezeGuard().changes(24), BAD);
    }

    @Sentence(in = "Promise 14: forgotten", says = "FORGOTTEN, as bits.")
    static void promise14_forgotten_noneAndAll(Check c) {
        c.due("forgotten() of no POSTS", new SneezeGuard().forgotten(), 0);
        c.due("forgotten(): none is", general().forgotten(), 0);
        c.due("forgotten(): all are", guard(EIGHT_POSTS, "").forgotten(), 255);
        c.due("forgotten(): the second", guard("50;03", "g0e9").forgotten(), 2);
    }

    @Sentence(in = "Promise 15: longest", says = TOLD_LONGEST)
    static void promise15_longest_whats0To2(Check c) {
        longestDue(c, guard("50;00", "g0e9"), 16, 1, 17);
    }

    @Sentence(in = "Promise 15: longest", says = TOLD_LONGEST)
    static void promise15_longest_none(Check c) {
        SneezeGuard x = general();
        x.undo(0);
        longestDue(c, x, NONE, NONE, NONE);
        x.type(0, '0');
        longestDue(c, x, 7, 0, 8);
    }

    @Sentence(in = "Promise 15: longest", says = "BAD.")
    static void promise15_longest_bad(Check c) {
        SneezeGuard x = general();
        for (int n : outside(3)) c.due("longest(" + n + ")", x.longest(n), BAD);
        c.due("longest(3) ahead of NONE", new SneezeGuard().longest(3), BAD);
        c.due("longest(-1) ahead of NONE", new SneezeGuard().longest(-1), BAD);
    }

    @Sentence(in = "Promise 16: all", says = "ALL.")
    static void promise16_all_leastAndMost(Check c) {
        SneezeGuard x = guard("50;50;50;50;50;50;50;50", "g0e1");
        c.due("all()", x.all(), 192);
        x.event(HELD, 0, 0);
        c.due("all() but for HOUR 0", x.all(), 184);
        x.wipe(1);
        c.due("all() of no PEOPLE", x.all(), 0);
    }

    @Sentence(in = "Promise 17: busy", says = "BUSY; NONE.")
    static void promise17_busy_noneIsNot0(Check c) {
        SneezeGuard x = general();
        c.due("busy()", x.busy(), 0);
        x.wipe(0);
        c.due("busy()", x.busy(), NONE);
        tell(x, 0, "50");
        x.wipe(1);
        c.due("busy()", x.busy(), NONE);
    }

    @Sentence(in = "Promise 18: quiet", says = "QUIET, as bits.")
    static void promise18_quiet_noneAndAll(Check c) {
        c.due("quiet() of no PEOPLE", guard(EIGHT_POSTS, "").quiet(), 0);
        c.due("quiet(): none is", guard("", SIX_PEOPLE).quiet(), 0);
        SneezeGuard x = withEvents(guard("", "p0e9;p1e9;p2e9;p3e9"), held(8, 0), held(8, 1), held(8, 2), held(8, 3),
            held(17, 0), held(17, 1), held(17, 2), held(17, 3));
        c.due("quiet(): all are", x.quiet(), 15);
        x.back();
        c.due("quiet(): but the last", x.quiet(), 7);
    }
}
