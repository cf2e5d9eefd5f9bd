/** What was SEEN, chances and decades, at their edges: 4 of 'Terms', FRACTIONS and LOTS, promises 23 to 29. */
final class SeenBoundaries extends Guards {
    private static final String FRACTIONS = "FRACTIONS are told in lowest terms, above and below (0 by 1).";
    private static final String LOTS = "LOTS of m: SEED becomes 1103515245 SEED and 12345, as ints that wrap; "
        + "its upper 16 bits as a number from 0 on, modulo m.";
    private static final String SEEN = "SEEN, 8 at most: in an HOUR a POST (0 to 7; of one that there is not neither "
        + "ever comes out so) was CHANGED (1), or not (0).";
    private static final String NEVER = "NEVER: EVENTS each of which, had it alone not been, makes all that was SEEN come out so, "
        + "as bits.";
    private static final String SORT = "SORT of a PERSON: 0 p, 1 c, 2 g, in place of its own, likewise, as bits.";
    private static final String COLDS = "COLDS of a PERSON: 1 to 9 at first, in place of its own, likewise, as bits (bit 1 on).";
    private static final String ASK = "ASK of a PERSON: the HOUR in which the greatest number of those of COLDS by which "
        + "the like POSTS are CHANGED is least, of like ones the least.";
    private static final String CHANCE = "CHANCE: each of EVENTS is by c sixteenths (0 to 16), by itself: "
        + "the chance that a POST is FORGOTTEN: a FRACTION.";
    private static final String DECADES = "DECADES by a SEED: n EVENTS (0 to 8), in place of those told: of each a LOT of 3 "
        + "(its kind), a LOT of 24 (its HOUR), a LOT of 10 (its number): ALL; how many are FORGOTTEN.";
    private static final String TOLD_DECADES = "DECADES: ALL (what = 0), how many are FORGOTTEN (1).";
    private static final String TOLD_CHANCE = "CHANCE: above, below.";
    private static final int ALL_COLDS = 1022;
    private static final long BAD_LONG = -9223372036854775806L;
    private static final int[] SEEDS = {0, 1, -1, 7, MOST, LEAST, LEAST + 1, 1148, -748, 771, 20847, 65535, 65536, -65536,
        123456789, -987654321};

    private static void chanceDue(Check c, SneezeGuard x, int sixteenths, int post, long above, long below) {
        c.due("chance(" + sixteenths + ", " + post + ", 0)", x.chance(sixteenths, post, 0), above);
        c.due("chance(" + sixteenths + ", " + post + ", 1)", x.chance(sixteenths, post, 1), below);
    }

    private static SneezeGuard seeing(SneezeGuard x, int[]... sights) {
        for (int[] s : sights) x.seen(s[0], s[1], s[2]);
        return x;
    }

    private static int[] changed(int hour, int post) {
        return new int[] {hour, post, 1};
    }

    private static int[] unchanged(int hour, int post) {
        return new int[] {hour, post, 0};
    }

    /** Between them every second HOUR and two more hear a sneeze; all eight noses HELD, it stands from 0 to 12. */
    private static SneezeGuard forgottenByAllEight() {
        return withEvents(guard("50", "g0e2;g9w5"), held(1, 0), held(3, 0), held(4, 1), held(5, 0), held(7, 0), held(9, 0),
            held(9, 1), held(11, 0));
    }

    private static SneezeGuard forgottenByAnyOfEight() {
        SneezeGuard x = general();
        for (int i = 0; i < 8; i++) x.event(HELD, 8, 0);
        return x;
    }

    // ---- FRACTIONS and LOTS

    @Sentence(in = "Terms", says = FRACTIONS)
    static void terms_fractions_0By1(Check c) {
        chanceDue(c, general(), 8, 0, 0, 1);
        chanceDue(c, withEvents(general(), frost(1), frost(2), frost(3)), 8, 0, 0, 1);
        chanceDue(c, forgottenByAnyOfEight(), 0, 0, 0, 1);
    }

    @Sentence(in = "Terms", says = FRACTIONS)
    static void terms_fractions_1By1(Check c) {
        chanceDue(c, guard("50", ""), 8, 0, 1, 1);
        chanceDue(c, withEvents(guard("50", ""), frost(1), frost(2), frost(3)), 7, 0, 1, 1);
        chanceDue(c, forgottenByAnyOfEight(), 16, 0, 1, 1);
    }

    @Sentence(in = "Terms", says = FRACTIONS)
    static void terms_fractions_inLowestTerms(Check c) {
        int[][] lowest = {{0, 1}, {1, 16}, {1, 8}, {3, 16}, {1, 4}, {5, 16}, {3, 8}, {7, 16}, {1, 2}, {9, 16}, {5, 8},
            {11, 16}, {3, 4}, {13, 16}, {7, 8}, {15, 16}, {1, 1}};
        SneezeGuard x = withEvents(general(), held(8, 0));
        for (int n = 0; n <= 16; n++) chanceDue(c, x, n, 0, lowest[n][0], lowest[n][1]);
    }

    @Sentence(in = "Terms", says = LOTS)
    static void terms_lots_ofIntsThatWrap(Check c) {
        // As longs, of which the lowest 32 bits are the int's; its upper 16 bits are never below 0.
        for (int seed : SEEDS) {
            SneezeGuard x = guard("50;02;93", "g0e9;p9w1;c4e6");
            long s = seed;
            for (int n = 1; n <= 8; n++) {
                int[] lots = new int[3];
                for (int i = 0; i < 3; i++) {
                    s = (1103515245L * s + 12345L) & 0xffffffffL;
                    lots[i] = (int) (s / 65536 % (i == 0 ? 3 : i == 1 ? 24 : 10));
                }
                x.event(lots[0], lots[1], lots[2]);
                c.due("decades(" + seed + ", " + n + ", 0)", x.decades(seed, n, 0), x.all());
                c.due("decades(" + seed + ", " + n + ", 1)", x.decades(seed, n, 1), Integer.bitCount(x.forgotten()));
            }
        }
    }

    @Sentence(in = "Terms", says = LOTS)
    static void terms_lots_upperBitsFrom0On(Check c) {
        // -748 becomes -795670083: its upper bits are 53395, 1 modulo 3; then 8384, 8 modulo 24; then 14240, 0 modulo 10.
        SneezeGuard x = guard("50", "g0e9");
        c.due("decades(-748, 1, 0)", x.decades(-748, 1, 0), 1);
        for (int seed = -40; seed < 40; seed++) c.due("decades(" + seed + ", 1, 0)", x.decades(seed, 1, 0), lotsAll(seed));
    }

    /** What the one EVENT of a seed makes of the general's day. */
    private static int lotsAll(int seed) {
        java.math.BigInteger s = java.math.BigInteger.valueOf(seed), wrap = java.math.BigInteger.ONE.shiftLeft(32);
        int[] lots = new int[3];
        for (int i = 0; i < 3; i++) {
            s = s.multiply(java.math.BigInteger.valueOf(1103515245)).add(java.math.BigInteger.valueOf(12345)).mod(wrap);
            lots[i] = s.shiftRight(16).intValue() % (i == 0 ? 3 : i == 1 ? 24 : 10);
        }
        int cell = lots[1] <= 9 ? lots[1] : lots[1] <= 18 ? 18 - lots[1] : lots[1] - 18;
        boolean sneezes = lots[1] == 8 || lots[1] == 17;
        if (lots[0] == 0) return lots[2] == cell && !sneezes ? 3 : 2;
        if (lots[0] == 1) return lots[2] == 0 && sneezes ? 1 : 2;
        return sneezes ? 2 : 3;
    }

    // ---- 4: SEEN

    @Sentence(in = "Terms", says = SEEN)
    static void four_seen_8AtMost(Check c) {
        SneezeGuard x = general();
        for (int i = 1; i <= 8; i++) c.due("seen " + i, x.seen(8, 0, 1), i);
        c.due("was(0, 0)", x.was(0, 0), 6);
        c.due("seen 9", x.seen(8, 0, 0), FULL);
        c.due("count(7)", x.count(7), 8);
        c.due("was(0, 0): it was not SEEN", x.was(0, 0), 6);
    }

    @Sentence(in = "Terms", says = SEEN)
    static void four_seen_theEighthCounts(Check c) {
        SneezeGuard x = general();
        for (int i = 0; i < 7; i++) x.seen(8, 0, 1);
        c.due("was(0, 0)", x.was(0, 0), 6);
        x.seen(8, 0, 0);
        c.due("was(0, 0): the last against those ahead", x.was(0, 0), 0);
    }

    @Sentence(in = "Terms", says = SEEN)
    static void four_seen_posts0To7(Check c) {
        SneezeGuard x = new SneezeGuard();
        c.due("seen(0, 0, 0)", x.seen(0, 0, 0), 1);
        c.due("seen(0, 7, 0)", x.seen(0, 7, 0), 2);
        for (int n : outside(8)) c.due("seen(0, " + n + ", 0)", x.seen(0, n, 0), BAD);
        // The eighth, by CELL 0, hears her in CELLS 0 and 1, so that it is CHANGED by COLD 1 in HOUR 1 and by 2.
        x = seeing(guard("93;93;93;93;93;93;93;01", "p0e9"), changed(1, 7));
        c.due("was(0, 1)", x.was(0, 1), 2 + 4);
    }

    @Sentence(in = "Terms", says = SEEN)
    static void four_seen_ofOneThatThereIsNotNeitherComesOutSo(Check c) {
        for (int is = 0; is < 2; is++) {
            for (int post : new int[] {1, 7}) {
                SneezeGuard x = withEvents(general(), frost(3));
                x.seen(8, post, is);
                c.due("never(): " + post + ", " + is, x.never(), 0);
                c.due("was(0, 0): " + post + ", " + is, x.was(0, 0), 0);
                c.due("was(0, 1): " + post + ", " + is, x.was(0, 1), 0);
                c.due("ask(0): " + post + ", " + is, x.ask(0), 0);
            }
        }
        SneezeGuard x = seeing(general(), unchanged(3, 1));
        c.due("was(0, 0)", x.was(0, 0), 0);
        tell(x, 0, ";50");
        c.due("was(0, 0): now there is", x.was(0, 0), 7);
        x.undo(0);
        c.due("was(0, 0): nor where a FAULT is", x.was(0, 0), 0);
    }

    @Sentence(in = "Terms", says = SEEN)
    static void four_seen_firstAndLastHour(Check c) {
        SneezeGuard x = withEvents(general(), frost(0), frost(23), frost(5));
        x.seen(0, 0, 1);
        c.due("never(): not the FROST of 0", x.never(), 6);
        x.forget();
        x.seen(23, 0, 1);
        c.due("never(): not the FROST of 23", x.never(), 5);
        x.forget();
        x.seen(0, 0, 0);
        c.due("never(): the FROST of 0", x.never(), 1);
        x.forget();
        x.seen(23, 0, 0);
        c.due("never(): the FROST of 23", x.never(), 2);
    }

    // ---- 4: NEVER

    @Sentence(in = "Terms", says = NEVER)
    static void four_never_ofNoEventsIsNone(Check c) {
        c.due("never() of a new object", new SneezeGuard().never(), 0);
        c.due("never() of no EVENTS", seeing(general(), changed(8, 0)).never(), 0);
    }

    @Sentence(in = "Terms", says = NEVER)
    static void four_never_allWhereNothingWasSeen(Check c) {
        SneezeGuard x = general();
        for (int n = 1; n <= 8; n++) {
            x.event(FROST, n, 0);
            c.due("never() of " + n + " EVENTS", x.never(), (1 << n) - 1);
        }
        c.due("never() of no POSTS", withEvents(new SneezeGuard(), frost(0)).never(), 1);
    }

    @Sentence(in = "Terms", says = NEVER)
    static void four_never_itAlone(Check c) {
        // Two FROSTS of one HOUR: without the one there is the other.
        SneezeGuard x = seeing(withEvents(general(), frost(3), frost(3)), unchanged(3, 0));
        c.due("never(): neither alone", x.never(), 0);
        x.back();
        c.due("never(): the one", x.never(), 1);
        x = seeing(withEvents(general(), frost(3), frost(4)), unchanged(3, 0), unchanged(4, 0));
        c.due("never(): not both at once", x.never(), 0);
    }

    @Sentence(in = "Terms", says = NEVER)
    static void four_never_allThatWasSeen(Check c) {
        SneezeGuard x = withEvents(general(), frost(3), held(8, 0), frost(4));
        seeing(x, unchanged(8, 0), changed(3, 0));
        c.due("never(): it comes out so without the last alone", x.never(), 4);
        x.seen(4, 0, 1);
        c.due("never(): by all it comes out as it is", x.never(), 0);
    }

    // ---- 4: SORT and COLDS

    @Sentence(in = "Terms", says = SORT)
    static void four_sort_allOneAndNone(Check c) {
        // From CELL 8 the general alone is heard in CELL 3, the common one besides in CELL 5.
        SneezeGuard x = guard("50;30", "p0e9");
        c.due("was(0, 0): all", x.was(0, 0), 7);
        x.seen(8, 0, 0);
        c.due("was(0, 0): p", x.was(0, 0), 1);
        x.forget();
        seeing(x, changed(8, 0), unchanged(8, 1));
        c.due("was(0, 0): c", x.was(0, 0), 2);
        x.forget();
        x.seen(8, 1, 1);
        c.due("was(0, 0): g", x.was(0, 0), 4);
        x.seen(8, 0, 0);
        c.due("was(0, 0): none", x.was(0, 0), 0);
        c.due("person(0, 0): as told", x.person(0, 0), 0);
    }

    @Sentence(in = "Terms", says = COLDS)
    static void four_colds_1To9AtFirst(Check c) {
        c.due("was(0, 1)", general().was(0, 1), ALL_COLDS);
        c.due("was(5, 1)", guard("50", SIX_PEOPLE).was(5, 1), ALL_COLDS);
        c.due("was(0, 1) of no POSTS", guard("", "g0e9").was(0, 1), ALL_COLDS);
    }

    @Sentence(in = "Terms", says = COLDS)
    static void four_colds_oneAndNone(Check c) {
        SneezeGuard x = seeing(general(), changed(0, 0));
        c.due("was(0, 1): 1", x.was(0, 1), 2);
        x.forget();
        seeing(x, changed(8, 0), unchanged(2, 0));
        c.due("was(0, 1): 9", x.was(0, 1), 512);
        x.seen(8, 0, 0);
        c.due("was(0, 1): none", x.was(0, 1), 0);
        c.due("person(0, 3): as told", x.person(0, 3), 9);
    }

    @Sentence(in = "Terms", says = COLDS)
    static void four_colds_inPlaceOfItsOwn(Check c) {
        // What was SEEN is not what is told: 9 is none of them.
        SneezeGuard x = seeing(general(), changed(5, 0), unchanged(8, 0));
        c.due("was(0, 1): 2 and 6", x.was(0, 1), 4 + 64);
        x = seeing(guard("50", "g0e2"), changed(5, 0), unchanged(8, 0));
        c.due("was(0, 1): likewise", x.was(0, 1), 4 + 64);
    }

    // ---- 4: ASK

    @Sentence(in = "Terms", says = ASK)
    static void four_ask_theFirstAndTheLastHour(Check c) {
        // 1 and 2 are left, which HOUR 0 tells.
        c.due("ask(0)", seeing(general(), changed(1, 0)).ask(0), 0);
        // She is heard in her own CELL alone, in 5, 13 and 23. Of 4, 5, 7, 8 and 9 HOUR 13 tells 7, HOUR 23 tells 4 and 8.
        c.due("ask(0)", seeing(guard("52", "p0e9"), unchanged(5, 0)).ask(0), 23);
    }

    @Sentence(in = "Terms", says = ASK)
    static void four_ask_ofLikeOnesTheLeast(Check c) {
        // 5, 7 and 9 are left: HOUR 4, 6, 8, .. each tells one of them.
        c.due("ask(0)", seeing(general(), unchanged(5, 0), unchanged(7, 0)).ask(0), 4);
        // Both 2 and 4 are CHANGED in HOUR 3; HOURS 1, 5, 9, .. tell them.
        c.due("ask(0)", seeing(general(), changed(3, 0), unchanged(0, 0)).ask(0), 1);
    }

    @Sentence(in = "Terms", says = ASK)
    static void four_ask_countsTheLeastAndTheGreatestOfColds(Check c) {
        // 1, 3 and 7 are left: HOUR 0 tells 1, HOUR 2 tells 7, and either leaves two alike.
        SneezeGuard x = seeing(guard("00", "p0e9"), changed(20, 0));
        c.due("was(0, 1)", x.was(0, 1), 2 + 8 + 128);
        c.due("ask(0)", x.ask(0), 0);
        // 8 and 9 are left, which HOUR 7 tells.
        x = seeing(general(), unchanged(3, 0), unchanged(4, 0), unchanged(5, 0), unchanged(6, 0));
        c.due("was(0, 1)", x.was(0, 1), 256 + 512);
        c.due("ask(0)", x.ask(0), 7);
    }

    @Sentence(in = "Terms", says = ASK)
    static void four_ask_where1OrNoneIsLeft(Check c) {
        SneezeGuard x = seeing(general(), changed(8, 0), unchanged(2, 0));
        c.due("was(0, 1)", x.was(0, 1), 512);
        c.due("ask(0): 9 alone", x.ask(0), 0);
        x.seen(8, 0, 0);
        c.due("ask(0): none", x.ask(0), 0);
    }

    @Sentence(in = "Terms", says = ASK)
    static void four_ask_whereNoHourTellsAny(Check c) {
        c.due("ask(0) of no POSTS", guard("", "g0e9").ask(0), 0);
        c.due("ask(0) of one not heard", guard("03", "p0e9").ask(0), 0);
        c.due("ask(0) of one CHANGED in any case", guard("50", "g0e9;g9w1").ask(0), 0);
    }

    // ---- 4: CHANCE

    @Sentence(in = "Terms", says = CHANCE)
    static void four_chance_0And16Sixteenths(Check c) {
        SneezeGuard x = forgottenByAllEight();
        c.due("forgotten()", x.forgotten(), 1);
        chanceDue(c, x, 0, 0, 0, 1);
        chanceDue(c, x, 16, 0, 1, 1);
        // Without either, and with both, it is CHANGED in time.
        x = withEvents(guard("50", "g0e9"), held(8, 0), frost(9));
        chanceDue(c, x, 0, 0, 0, 1);
        chanceDue(c, x, 16, 0, 0, 1);
    }

    @Sentence(in = "Terms", says = CHANCE)
    static void four_chance_ofNoEvents(Check c) {
        for (int n : new int[] {0, 8, 16}) {
            chanceDue(c, general(), n, 0, 0, 1);
            chanceDue(c, guard("50", ""), n, 0, 1, 1);
        }
    }

    @Sentence(in = "Terms", says = CHANCE)
    static void four_chance_of8EventsBeyondInts(Check c) {
        SneezeGuard all = forgottenByAllEight(), any = forgottenByAnyOfEight();
        chanceDue(c, all, 1, 0, 1, 4294967296L);
        chanceDue(c, all, 15, 0, 2562890625L, 4294967296L);
        chanceDue(c, all, 8, 0, 1, 256);
        chanceDue(c, any, 15, 0, 4294967295L, 4294967296L);
        chanceDue(c, any, 1, 0, 1732076671L, 4294967296L);
        chanceDue(c, any, 8, 0, 255, 256);
    }

    @Sentence(in = "Terms", says = CHANCE)
    static void four_chance_ofThatPost(Check c) {
        // The first two by the nose HELD in HOUR 8; the last, that does not hear HOUR 8, in any case.
        SneezeGuard x = withEvents(guard("50;50;00", "g0e9"), held(8, 0));
        chanceDue(c, x, 4, 0, 1, 4);
        chanceDue(c, x, 4, 1, 1, 4);
        chanceDue(c, x, 4, 2, 1, 1);
        chanceDue(c, withEvents(guard("50;50;50;50;50;50;50;50", "g0e9"), held(8, 0)), 3, 7, 3, 16);
    }

    // ---- 4: DECADES

    @Sentence(in = "Terms", says = DECADES)
    static void four_decades_of0And8(Check c) {
        SneezeGuard x = general();
        for (int seed : SEEDS) c.due("decades(" + seed + ", 0, 0)", x.decades(seed, 0, 0), 2);
        // 7 draws PEPPER in HOUR 14, CELL 8 and 5; in 11, CELL 3; a nose (1) in 5; FROST in 10; a nose (4) in 1;
        // PEPPER in 4, CELL 0; and a FROST in 15. Both FROSTS add one.
        c.due("decades(7, 7, 0)", x.decades(7, 7, 0), 3);
        c.due("decades(7, 8, 0)", x.decades(7, 8, 0), 4);
    }

    @Sentence(in = "Terms", says = DECADES)
    static void four_decades_inPlaceOfThoseTold(Check c) {
        SneezeGuard x = general();
        for (int hour = 0; hour < 8; hour++) x.event(FROST, hour, 0);
        c.due("all()", x.all(), 10);
        c.due("decades(7, 0, 0)", x.decades(7, 0, 0), 2);
        c.due("decades(7, 8, 0): there is room in any case", x.decades(7, 8, 0), 4);
        c.due("count(4): those told stay", x.count(4), 8);
        c.due("all(): as it was", x.all(), 10);
    }

    @Sentence(in = "Terms", says = DECADES)
    static void four_decades_howManyAreForgotten(Check c) {
        c.due("decades(7, 0, 1): all eight", guard(EIGHT_POSTS, "").decades(7, 0, 1), 8);
        c.due("decades(7, 8, 1): all eight", guard(EIGHT_POSTS, "").decades(7, 8, 1), 8);
        c.due("decades(7, 0, 1): none", general().decades(7, 0, 1), 0);
        // 1148 draws a nose HELD (0) in HOUR 8.
        c.due("decades(1148, 1, 1)", general().decades(1148, 1, 1), 1);
        c.due("decades(1148, 1, 0)", general().decades(1148, 1, 0), 1);
        c.due("decades(7, 8, 0) of none", new SneezeGuard().decades(7, 8, 0), 0);
        c.due("decades(7, 8, 1) of none", new SneezeGuard().decades(7, 8, 1), 0);
    }

    // ---- Promise 23: seen

    @Sentence(in = "Promise 23: seen", says = "SEEN more: how many.")
    static void promise23_seen_fromTheFirstToTheEighth(Check c) {
        SneezeGuard x = new SneezeGuard();
        for (int i = 1; i <= 8; i++) {
            c.due("seen " + i, x.seen(i % 2 == 0 ? 0 : 23, i % 2 == 0 ? 7 : 0, i % 2), i);
            c.due("count(7)", x.count(7), i);
        }
    }

    @Sentence(in = "Promise 23: seen", says = "BAD; FULL.")
    static void promise23_seen_bad(Check c) {
        SneezeGuard x = general();
        for (int n : outside(24)) c.due("seen(" + n + ", 0, 0)", x.seen(n, 0, 0), BAD);
        for (int n : outside(8)) c.due("seen(0, " + n + ", 0)", x.seen(0, n, 0), BAD);
        for (int n : outside(2)) c.due("seen(0, 0, " + n + ")", x.seen(0, 0, n), BAD);
        c.due("count(7)", x.count(7), 0);
        c.due("was(0, 1)", x.was(0, 1), ALL_COLDS);
    }

    @Sentence(in = "Promise 23: seen", says = "BAD; FULL.")
    static void promise23_seen_full(Check c) {
        SneezeGuard x = general();
        for (int i = 0; i < 8; i++) x.seen(8, 0, 1);
        c.due("seen(0, 0, 0)", x.seen(0, 0, 0), FULL);
        c.due("seen(0, 0, 0): once more", x.seen(0, 0, 0), FULL);
        c.due("count(7)", x.count(7), 8);
        x.forget();
        c.due("seen(0, 0, 0)", x.seen(0, 0, 0), 1);
    }

    @Sentence(in = "Promise 23: seen", says = "BAD; FULL.")
    static void promise23_seen_badAheadOfFull(Check c) {
        SneezeGuard x = general();
        for (int i = 0; i < 8; i++) x.seen(8, 0, 1);
        c.due("seen(24, 0, 0)", x.seen(24, 0, 0), BAD);
        c.due("seen(0, 8, 0)", x.seen(0, 8, 0), BAD);
        c.due("seen(0, 0, 2)", x.seen(0, 0, 2), BAD);
    }

    // ---- Promise 24: forget

    @Sentence(in = "Promise 24: forget", says = "All SEEN are forgotten: how many.")
    static void promise24_forget_noneOneAndEight(Check c) {
        SneezeGuard x = general();
        c.due("forget()", x.forget(), 0);
        x.seen(8, 0, 0);
        c.due("was(0, 1)", x.was(0, 1), ALL_COLDS - 2 - 8 - 512);
        c.due("forget()", x.forget(), 1);
        c.due("was(0, 1)", x.was(0, 1), ALL_COLDS);
        for (int i = 0; i < 8; i++) x.seen(8, 0, i % 2);
        c.due("forget()", x.forget(), 8);
        c.due("count(7)", x.count(7), 0);
        c.due("was(0, 1)", x.was(0, 1), ALL_COLDS);
        c.due("forget(): once more", x.forget(), 0);
    }

    // ---- Promise 25: never

    @Sentence(in = "Promise 25: never", says = "NEVER, as bits.")
    static void promise25_never_bitsOfTheFirstAndTheEighth(Check c) {
        SneezeGuard x = general();
        for (int hour = 0; hour < 8; hour++) x.event(FROST, hour, 0);
        c.due("never(): all", x.never(), 255);
        x.seen(0, 0, 0);
        c.due("never(): the first", x.never(), 1);
        x.forget();
        x.seen(7, 0, 0);
        c.due("never(): the eighth", x.never(), 128);
        x.seen(0, 0, 0);
        c.due("never(): none", x.never(), 0);
    }

    // ---- Promise 26: was

    @Sentence(in = "Promise 26: was", says = "SORT (what = 0), COLDS (1), as bits.")
    static void promise26_was_theFirstAndTheLastPerson(Check c) {
        SneezeGuard x = seeing(guard("50", "g0e9;p0e9;p0e9;p0e9;p0e9;g9w9"), unchanged(0, 0));
        for (int person : new int[] {0, 5}) {
            c.due("was(" + person + ", 0)", x.was(person, 0), 7);
            c.due("was(" + person + ", 1): not 1", x.was(person, 1), ALL_COLDS - 2);
        }
        c.due("was(1, 1): not heard from CELL 0", x.was(1, 1), ALL_COLDS);
    }

    @Sentence(in = "Promise 26: was", says = "BAD.")
    static void promise26_was_badPerson(Check c) {
        SneezeGuard x = guard("50;00", "g0e9");
        for (int n : outside(1)) {
            c.due("was(" + n + ", 0)", x.was(n, 0), BAD);
            c.due("was(" + n + ", 1)", x.was(n, 1), BAD);
        }
        c.due("was(0, 0) of no PEOPLE", guard("50", "").was(0, 0), BAD);
        c.due("was(6, 1) of six", guard("50", SIX_PEOPLE).was(6, 1), BAD);
    }

    @Sentence(in = "Promise 26: was", says = "BAD.")
    static void promise26_was_badWhat(Check c) {
        SneezeGuard x = general();
        for (int n : outside(2)) c.due("was(0, " + n + ")", x.was(0, n), BAD);
    }

    // ---- Promise 27: ask

    @Sentence(in = "Promise 27: ask", says = "ASK.")
    static void promise27_ask_theFirstAndTheLastPerson(Check c) {
        // The others never meet her, and are in CELL 5 in 4, 12 and 22, when they do not sneeze.
        SneezeGuard x = seeing(guard("52", "p0e9;p1e9;p1e9;p1e9;p1e9;p1e9"), unchanged(5, 0));
        c.due("ask(0)", x.ask(0), 23);
        x = seeing(guard("52", "p1e9;p1e9;p1e9;p1e9;p1e9;p0e9"), unchanged(5, 0));
        c.due("ask(5)", x.ask(5), 23);
    }

    @Sentence(in = "Promise 27: ask", says = "BAD.")
    static void promise27_ask_bad(Check c) {
        SneezeGuard x = guard("50;00", "g0e9");
        for (int n : outside(1)) c.due("ask(" + n + ")", x.ask(n), BAD);
        c.due("ask(0) of no PEOPLE", guard("50", "").ask(0), BAD);
        c.due("ask(6) of six", guard("50", SIX_PEOPLE).ask(6), BAD);
    }

    // ---- Promise 28: chance

    @Sentence(in = "Promise 28: chance", says = TOLD_CHANCE)
    static void promise28_chance_theFirstAndTheLastPost(Check c) {
        SneezeGuard x = withEvents(guard("50;00;00;00;00;00;00;03", "g0e9"), held(8, 0));
        chanceDue(c, x, 4, 0, 1, 4);
        chanceDue(c, x, 4, 7, 1, 1);
        c.due("forgotten(): as it is", x.forgotten(), 255);
    }

    @Sentence(in = "Promise 28: chance", says = "BAD (the least long and 2 more).")
    static void promise28_chance_badSixteenths(Check c) {
        SneezeGuard x = general();
        for (int n : outside(17)) {
            c.due("chance(" + n + ", 0, 0)", x.chance(n, 0, 0), BAD_LONG);
            c.due("chance(" + n + ", 0, 1)", x.chance(n, 0, 1), BAD_LONG);
        }
    }

    @Sentence(in = "Promise 28: chance", says = "BAD (the least long and 2 more).")
    static void promise28_chance_badPost(Check c) {
        SneezeGuard x = guard("50", "g0e9;g0e9");
        for (int n : outside(1)) {
            c.due("chance(5, " + n + ", 0)", x.chance(5, n, 0), BAD_LONG);
            c.due("chance(5, " + n + ", 1)", x.chance(5, n, 1), BAD_LONG);
        }
        c.due("chance(5, 0, 0) of no POSTS", guard("", "g0e9").chance(5, 0, 0), BAD_LONG);
        c.due("chance(5, 8, 0) of eight", guard(EIGHT_POSTS, "").chance(5, 8, 0), BAD_LONG);
    }

    @Sentence(in = "Promise 28: chance", says = "BAD (the least long and 2 more).")
    static void promise28_chance_badWhat(Check c) {
        SneezeGuard x = general();
        for (int n : outside(2)) c.due("chance(5, 0, " + n + ")", x.chance(5, 0, n), BAD_LONG);
    }

    // ---- Promise 29: decades

    @Sentence(in = "Promise 29: decades", says = TOLD_DECADES)
    static void promise29_decades_anySeed(Check c) {
        SneezeGuard x = guard(EIGHT_POSTS, SIX_PEOPLE);
        for (int seed : SEEDS) {
            for (int n : new int[] {0, 8}) {
                int all = x.decades(seed, n, 0), forgotten = x.decades(seed, n, 1);
                c.holds("decades(" + seed + ", " + n + ", 0): " + all, all >= 0 && all <= 192);
                c.holds("decades(" + seed + ", " + n + ", 1): " + forgotten, forgotten >= 0 && forgotten <= 8);
                c.due("decades(" + seed + ", " + n + ", 0): the like once more", x.decades(seed, n, 0), all);
            }
        }
    }

    @Sentence(in = "Promise 29: decades", says = "BAD.")
    static void promise29_decades_badNumber(Check c) {
        SneezeGuard x = general();
        for (int n : outside(9)) {
            c.due("decades(7, " + n + ", 0)", x.decades(7, n, 0), BAD);
            c.due("decades(7, " + n + ", 1)", x.decades(7, n, 1), BAD);
        }
    }

    @Sentence(in = "Promise 29: decades", says = "BAD.")
    static void promise29_decades_badWhat(Check c) {
        SneezeGuard x = general();
        for (int n : outside(2)) c.due("decades(7, 3, " + n + ")", x.decades(7, 3, n), BAD);
    }
}
