/** What had better be, at its edges: 3 of 'Terms', promises 19 to 22. */
final class PlanBoundaries extends Guards {
    private static final String STROLL = "STROLL of a PERSON: the CELL in HOUR 0, in place of its own, by which LONGEST is least, "
        + "of like ones the least: which; how long (where there are no POSTS, 0 and 0).";
    private static final String DUST = "DUST in an HOUR: the CELL for PEPPER more (whatever room), by which ALL is most, "
        + "of like ones the least: which; how many.";
    private static final String HUSH = "HUSH in an HOUR: the PERSON whose nose had better be HELD, besides (whatever room), "
        + "so that ALL is least, of like ones the least: which; how many; NONE: there are none.";
    private static final String SPARE = "SPARE: the fewest EVENTS (0 to 2) that had better not be, so that no POST is FORGOTTEN, "
        + "of like ones the least row (each more than the one ahead): how many; the i-th; NONE.";
    private static final String TOLD_SPARE = "SPARE: how many (i = NONE), the i-th (0, 1; NONE); NONE.";
    private static final int[] IDLE = {HELD, 5, 9};

    private static void strollDue(Check c, SneezeGuard x, int person, int which, int howLong) {
        c.due("stroll(" + person + ", 0)", x.stroll(person, 0), which);
        c.due("stroll(" + person + ", 1)", x.stroll(person, 1), howLong);
    }

    private static void dustDue(Check c, SneezeGuard x, int hour, int which, int howMany) {
        c.due("dust(" + hour + ", 0)", x.dust(hour, 0), which);
        c.due("dust(" + hour + ", 1)", x.dust(hour, 1), howMany);
    }

    private static void hushDue(Check c, SneezeGuard x, int hour, int which, int howMany) {
        c.due("hush(" + hour + ", 0)", x.hush(hour, 0), which);
        c.due("hush(" + hour + ", 1)", x.hush(hour, 1), howMany);
    }

    private static void spareDue(Check c, SneezeGuard x, int howMany, int first, int second) {
        c.due("spare(-1)", x.spare(-1), howMany);
        c.due("spare(0)", x.spare(0), first);
        c.due("spare(1)", x.spare(1), second);
    }

    /** In HOUR 8 each of the two changes the POST in any case; with both HELD then, nobody does. */
    private static SneezeGuard twoGenerals(int[]... events) {
        return withEvents(guard("50", "g0e9;g9w9"), events);
    }

    // ---- 3: STROLL

    @Sentence(in = "Terms", says = STROLL)
    static void three_stroll_theLeastCellAndTheGreatest(Check c) {
        // She is heard in CELL 0 alone. To less from 9 she comes there in HOUR 9: 9 ahead, 14 behind, no other does better.
        strollDue(c, guard("02", "p5w1"), 0, 9, 14);
        // The same, from 0 to more.
        strollDue(c, guard("92", "p5e1"), 0, 0, 14);
    }

    @Sentence(in = "Terms", says = STROLL)
    static void three_stroll_ofLikeOnesTheLeast(Check c) {
        strollDue(c, general(), 0, 0, 8);
        // From 3 to 9, and from 9 down to 3, he is in the PEPPER in HOUR 12: 11 behind it, in place of 15.
        strollDue(c, withEvents(general(), held(17, 0), pepper(12, 3)), 0, 3, 11);
    }

    @Sentence(in = "Terms", says = STROLL)
    static void three_stroll_inPlaceOfItsOwn(Check c) {
        SneezeGuard x = guard("02", "p5w1");
        c.due("longest(2) from CELL 5", x.longest(2), 17);
        strollDue(c, x, 0, 9, 14);
        c.due("person(0, 1): as told", x.person(0, 1), 5);
        c.due("longest(2): as it was", x.longest(2), 17);
    }

    @Sentence(in = "Terms", says = STROLL)
    static void three_stroll_of0And24(Check c) {
        strollDue(c, guard("50", "g7e1"), 0, 0, 0);
        strollDue(c, guard("03", "p7e1"), 0, 0, 24);
    }

    @Sentence(in = "Terms", says = STROLL)
    static void three_stroll_0And0WhereThereAreNoPosts(Check c) {
        strollDue(c, guard("", "p5w1;g9w9"), 0, 0, 0);
        strollDue(c, guard("", "p5w1;g9w9"), 1, 0, 0);
        strollDue(c, guard("02;", "p5w1"), 0, 0, 0);
        // Not what was found ahead.
        SneezeGuard x = guard("02", "p5w1");
        strollDue(c, x, 0, 9, 14);
        x.wipe(0);
        strollDue(c, x, 0, 0, 0);
    }

    // ---- 3: DUST

    @Sentence(in = "Terms", says = DUST)
    static void three_dust_theLeastCellAndTheGreatest(Check c) {
        dustDue(c, general(), 0, 0, 3);
        dustDue(c, general(), 9, 9, 3);
    }

    @Sentence(in = "Terms", says = DUST)
    static void three_dust_ofLikeOnesTheLeast(Check c) {
        // In HOUR 3 they are in CELLS 3 and 7.
        dustDue(c, guard("50", "g0e9;g4e9"), 3, 3, 3);
        dustDue(c, guard("50", "g4e9;g0e9"), 3, 3, 3);
        // No better than as it is: he sneezes in HOUR 8.
        dustDue(c, general(), 8, 0, 2);
        dustDue(c, withEvents(general(), held(3, 0)), 3, 0, 2);
    }

    @Sentence(in = "Terms", says = DUST)
    static void three_dust_whateverRoom(Check c) {
        SneezeGuard x = general();
        for (int i = 0; i < 8; i++) x.event(HELD, 5, 9);
        dustDue(c, x, 3, 3, 3);
        c.due("count(4)", x.count(4), 8);
        c.due("changes(3): as it was", x.changes(3), 0);
        x.back();
        dustDue(c, x, 3, 3, 3);
    }

    @Sentence(in = "Terms", says = DUST)
    static void three_dust_pepperMore(Check c) {
        // What is told stays: he is in it in any case, and she may be besides.
        SneezeGuard x = withEvents(guard("00;90", "p0e9;p9w9"), pepper(1, 1));
        dustDue(c, x, 1, 8, 6);
        dustDue(c, withEvents(general(), pepper(3, 3)), 3, 0, 3);
    }

    @Sentence(in = "Terms", says = DUST)
    static void three_dust_leavesNoPepper(Check c) {
        // In HOUR 3 they are in CELLS 3 and 9.
        SneezeGuard x = guard("50", "g0e9;g6e9");
        dustDue(c, x, 3, 3, 3);
        hushDue(c, x, 3, 0, 2);
        c.due("all()", x.all(), 2);
    }

    @Sentence(in = "Terms", says = DUST)
    static void three_dust_0WhereThereAreNone(Check c) {
        for (int hour : new int[] {0, 23}) {
            dustDue(c, new SneezeGuard(), hour, 0, 0);
            dustDue(c, guard(EIGHT_POSTS, ""), hour, 0, 0);
            dustDue(c, guard("", SIX_PEOPLE), hour, 0, 0);
        }
    }

    // ---- 3: HUSH

    @Sentence(in = "Terms", says = HUSH)
    static void three_hush_theFirstAndTheLast(Check c) {
        hushDue(c, general(), 8, 0, 1);
        // The princesses are not heard, and do not meet him; he is, in HOUR 17, from CELL 0.
        hushDue(c, guard("03", "p0e9;p2e9;p4e9;p6e9;p8e9;g1e9"), 17, 5, 0);
    }

    @Sentence(in = "Terms", says = HUSH)
    static void three_hush_ofLikeOnesTheLeast(Check c) {
        hushDue(c, general(), 3, 0, 2);
        hushDue(c, twoGenerals(), 8, 0, 2);
        // The second and the third are like ones, the first is not heard.
        hushDue(c, guard("03;93", "p4e9;g0e9;g9w9"), 8, 1, 3);
    }

    @Sentence(in = "Terms", says = HUSH)
    static void three_hush_whateverRoom(Check c) {
        SneezeGuard x = general();
        for (int i = 0; i < 8; i++) x.event(HELD, 5, 9);
        hushDue(c, x, 8, 0, 1);
        c.due("count(4)", x.count(4), 8);
        c.due("changes(8): as it was", x.changes(8), 1);
    }

    @Sentence(in = "Terms", says = HUSH)
    static void three_hush_besides(Check c) {
        // What is HELD stays so: then the other one is the better.
        hushDue(c, twoGenerals(held(8, 0)), 8, 1, 1);
        hushDue(c, twoGenerals(held(8, 1)), 8, 0, 1);
        hushDue(c, twoGenerals(held(8, 0), held(8, 1)), 8, 0, 1);
    }

    @Sentence(in = "Terms", says = HUSH)
    static void three_hush_noneWhereThereAreNone(Check c) {
        hushDue(c, guard("50", ""), 8, NONE, NONE);
        hushDue(c, new SneezeGuard(), 0, NONE, NONE);
        hushDue(c, guard("50", "g0e9;"), 8, NONE, NONE);
        // PEOPLE without POSTS are some.
        hushDue(c, guard("", "g0e9"), 8, 0, 0);
        // Not what was found ahead.
        SneezeGuard x = general();
        hushDue(c, x, 8, 0, 1);
        x.wipe(1);
        hushDue(c, x, 8, NONE, NONE);
    }

    @Sentence(in = "Terms", says = HUSH)
    static void three_hush_leavesNoNoseHeld(Check c) {
        SneezeGuard x = general();
        hushDue(c, x, 3, 0, 2);
        dustDue(c, x, 3, 3, 3);
        c.due("all()", x.all(), 2);
    }

    // ---- 3: SPARE

    @Sentence(in = "Terms", says = SPARE)
    static void three_spare_0WhereNoneIsForgotten(Check c) {
        spareDue(c, general(), 0, NONE, NONE);
        spareDue(c, withEvents(general(), held(5, 0)), 0, NONE, NONE);
        spareDue(c, new SneezeGuard(), 0, NONE, NONE);
        spareDue(c, guard("", "g0e9"), 0, NONE, NONE);
    }

    @Sentence(in = "Terms", says = SPARE)
    static void three_spare_1(Check c) {
        spareDue(c, withEvents(general(), held(8, 0)), 1, 0, NONE);
        spareDue(c, withEvents(general(), IDLE, IDLE, IDLE, IDLE, IDLE, IDLE, IDLE, held(8, 0)), 1, 7, NONE);
    }

    @Sentence(in = "Terms", says = SPARE)
    static void three_spare_2(Check c) {
        spareDue(c, withEvents(general(), held(8, 0), held(8, 0)), 2, 0, 1);
        spareDue(c, withEvents(general(), held(8, 0), IDLE, IDLE, IDLE, IDLE, IDLE, IDLE, held(8, 0)), 2, 0, 7);
        spareDue(c, withEvents(general(), IDLE, IDLE, IDLE, IDLE, IDLE, IDLE, held(8, 0), held(8, 0)), 2, 6, 7);
    }

    @Sentence(in = "Terms", says = SPARE)
    static void three_spare_noneWhere2AreNotEnough(Check c) {
        spareDue(c, withEvents(general(), held(8, 0), held(8, 0), held(8, 0)), NONE, NONE, NONE);
        spareDue(c, guard("50", ""), NONE, NONE, NONE);
        spareDue(c, withEvents(guard("03", "p0e9"), frost(0), frost(12)), NONE, NONE, NONE);
    }

    @Sentence(in = "Terms", says = SPARE)
    static void three_spare_theFewest(Check c) {
        // Without 0 and 1 it is well, as it is without 2 alone.
        SneezeGuard x = twoGenerals(held(8, 1), held(8, 1), held(8, 0));
        spareDue(c, x, 1, 2, NONE);
        c.due("forgotten(): as it was", x.forgotten(), 1);
    }

    @Sentence(in = "Terms", says = SPARE)
    static void three_spare_ofLikeOnesTheLeastRow(Check c) {
        spareDue(c, twoGenerals(IDLE, held(8, 0), held(8, 1)), 1, 1, NONE);
        // 1 and 4, or 2 and 3.
        spareDue(c, twoGenerals(IDLE, held(8, 0), held(8, 1), held(8, 1), held(8, 0)), 2, 1, 4);
        // 1 and 3, or 2 and 4.
        spareDue(c, twoGenerals(IDLE, held(8, 0), held(8, 1), held(8, 0), held(8, 1)), 2, 1, 3);
    }

    @Sentence(in = "Terms", says = SPARE)
    static void three_spare_noPostIsForgotten(Check c) {
        // POST 0 hears the FROSTS of 4 and 14 and HOUR 17, POST 1 that of 13 and HOUR 8: each is FORGOTTEN by one nose HELD.
        SneezeGuard x = withEvents(guard("03;93", "g0e9"), frost(4), frost(14), frost(13), held(4, 0), held(8, 0));
        c.due("forgotten()", x.forgotten(), 3);
        spareDue(c, x, 2, 3, 4);
        x = withEvents(guard("50;50", "g0e9"), held(8, 0), held(17, 0));
        c.due("forgotten()", x.forgotten(), 3);
        spareDue(c, x, 2, 0, 1);
    }

    @Sentence(in = "Terms", says = SPARE)
    static void three_spare_leavesAllEvents(Check c) {
        SneezeGuard x = withEvents(general(), held(8, 0), frost(3));
        spareDue(c, x, 1, 0, NONE);
        // In HOURS 3, 5 and 17, and not in 8.
        dustDue(c, x, 5, 5, 3);
        c.due("changes(8)", x.changes(8), 0);
    }

    // ---- Promise 19: stroll

    @Sentence(in = "Promise 19: stroll", says = "STROLL: which (what = 0), how long (1).")
    static void promise19_stroll_theFirstAndTheLastPerson(Check c) {
        // The others sneeze in CELL 0 never.
        strollDue(c, guard("02", "p5w1;p0e9;p0e9;p0e9;p0e9;p0e9"), 0, 9, 14);
        strollDue(c, guard("02", "p0e9;p0e9;p0e9;p0e9;p0e9;p5w1"), 5, 9, 14);
    }

    @Sentence(in = "Promise 19: stroll", says = "BAD.")
    static void promise19_stroll_badPerson(Check c) {
        SneezeGuard x = guard("50;00", "g0e9");
        for (int n : outside(1)) {
            c.due("stroll(" + n + ", 0)", x.stroll(n, 0), BAD);
            c.due("stroll(" + n + ", 1)", x.stroll(n, 1), BAD);
        }
        c.due("stroll(0, 0) of no PEOPLE", guard("50", "").stroll(0, 0), BAD);
        c.due("stroll(0, 0) of neither", new SneezeGuard().stroll(0, 0), BAD);
        c.due("stroll(1, 0) of no POSTS", guard("", "g0e9").stroll(1, 0), BAD);
        c.due("stroll(6, 0) of six", guard("50", SIX_PEOPLE).stroll(6, 0), BAD);
    }

    @Sentence(in = "Promise 19: stroll", says = "BAD.")
    static void promise19_stroll_badWhat(Check c) {
        SneezeGuard x = general(), noPosts = guard("", "g0e9");
        for (int n : outside(2)) {
            c.due("stroll(0, " + n + ")", x.stroll(0, n), BAD);
            c.due("stroll(0, " + n + ") of no POSTS", noPosts.stroll(0, n), BAD);
        }
    }

    // ---- Promise 20: dust

    @Sentence(in = "Promise 20: dust", says = "DUST: which (what = 0), how many (1).")
    static void promise20_dust_firstAndLastHour(Check c) {
        dustDue(c, guard("50", "g4e9"), 0, 4, 3);
        // In HOUR 23 he is in CELL 5.
        dustDue(c, general(), 23, 5, 3);
    }

    @Sentence(in = "Promise 20: dust", says = "BAD.")
    static void promise20_dust_badHour(Check c) {
        SneezeGuard x = general();
        for (int n : outside(24)) {
            c.due("dust(" + n + ", 0)", x.dust(n, 0), BAD);
            c.due("dust(" + n + ", 1)", x.dust(n, 1), BAD);
        }
    }

    @Sentence(in = "Promise 20: dust", says = "BAD.")
    static void promise20_dust_badWhat(Check c) {
        SneezeGuard x = general();
        for (int n : outside(2)) c.due("dust(3, " + n + ")", x.dust(3, n), BAD);
    }

    // ---- Promise 21: hush

    @Sentence(in = "Promise 21: hush", says = "HUSH: which (what = 0), how many (1); NONE.")
    static void promise21_hush_firstAndLastHour(Check c) {
        hushDue(c, guard("50", "g0e1"), 0, 0, 23);
        hushDue(c, guard("50", "g0e1"), 23, 0, 23);
        hushDue(c, guard("50", ""), 23, NONE, NONE);
    }

    @Sentence(in = "Promise 21: hush", says = "BAD.")
    static void promise21_hush_badHour(Check c) {
        SneezeGuard x = general();
        for (int n : outside(24)) {
            c.due("hush(" + n + ", 0)", x.hush(n, 0), BAD);
            c.due("hush(" + n + ", 1)", x.hush(n, 1), BAD);
        }
        c.due("hush(24, 0) ahead of NONE", guard("50", "").hush(24, 0), BAD);
        c.due("hush(-1, 0) ahead of NONE", guard("50", "").hush(-1, 0), BAD);
    }

    @Sentence(in = "Promise 21: hush", says = "BAD.")
    static void promise21_hush_badWhat(Check c) {
        SneezeGuard x = general(), noPeople = guard("50", "");
        for (int n : outside(2)) {
            c.due("hush(8, " + n + ")", x.hush(8, n), BAD);
            c.due("hush(8, " + n + ") ahead of NONE", noPeople.hush(8, n), BAD);
        }
    }

    @Sentence(in = "Promise 21: hush", says = "(Also if it is no better than as it is.)")
    static void promise21_hush_noBetterThanAsItIs(Check c) {
        SneezeGuard x = general();
        c.due("all()", x.all(), 2);
        hushDue(c, x, 3, 0, 2);
        hushDue(c, guard("03", "p0e1;p1e1"), 3, 0, 0);
        // It is worse with 0 HELD: by her he has COLD 7 from HOUR 21 on, and not 8, by which he would sneeze in 23.
        x = guard("50", "p4w7;g0e8");
        c.due("all()", x.all(), 2);
        hushDue(c, x, 20, 1, 2);
        x.event(HELD, 20, 0);
        c.due("all() with 0 HELD", x.all(), 3);
    }

    // ---- Promise 22: spare

    @Sentence(in = "Promise 22: spare", says = TOLD_SPARE)
    static void promise22_spare_howManyAndTheIth(Check c) {
        SneezeGuard x = withEvents(general(), IDLE, held(8, 0), IDLE, held(8, 0));
        spareDue(c, x, 2, 1, 3);
        x.back();
        spareDue(c, x, 1, 1, NONE);
        x.back();
        x.back();
        spareDue(c, x, 0, NONE, NONE);
    }

    @Sentence(in = "Promise 22: spare", says = TOLD_SPARE)
    static void promise22_spare_none(Check c) {
        spareDue(c, guard("50", ""), NONE, NONE, NONE);
        spareDue(c, withEvents(guard("50", ""), frost(3), frost(9), frost(15)), NONE, NONE, NONE);
    }

    @Sentence(in = "Promise 22: spare", says = "BAD.")
    static void promise22_spare_bad(Check c) {
        SneezeGuard x = withEvents(general(), held(8, 0), held(8, 0)), none = guard("50", "");
        for (int n : new int[] {-2, 2, 3, LEAST, MOST, -3, 256, -256}) {
            c.due("spare(" + n + ")", x.spare(n), BAD);
            c.due("spare(" + n + ") where none is enough", none.spare(n), BAD);
            c.due("spare(" + n + ") of a new object", new SneezeGuard().spare(n), BAD);
        }
    }
}
