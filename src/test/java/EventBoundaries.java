/** HOURS, EVENTS, and what comes of them in an HOUR, at their edges: 'Terms', promises 8 to 10. */
final class EventBoundaries extends Guards {
    private static final String HOURS = "HOURS are 0 to 23.";
    private static final String EVENTS = "EVENTS, 8 at most (0 on): a kind, an HOUR, a number 0 to 9: 0 PEPPER in that CELL, "
        + "1 that PERSON's nose is HELD, 2 a FROST (whatever number is told).";
    private static final String WALKS = "In HOUR 0 PEOPLE are where they begin; in each later one first each goes by 1 CELL its WAY; "
        + "where there is no such CELL it turns, and goes by 1 CELL the other WAY.";
    private static final String SNEEZES = "Then those SNEEZE whose COLD divides the HOUR and 1 with nothing left, "
        + "those in a CELL with PEPPER in that HOUR, in a FROST all; but nobody whose nose is HELD in that HOUR.";
    private static final String HEARS = "A POST hears one that SNEEZES, if how LOUD that one is, less the CELLS between "
        + "(the difference), is no less than how HARD the POST is of hearing.";
    private static final String CHANGED = "A POST that hears any is CHANGED in that HOUR (by the least of these): "
        + "it has STOOD for 0 HOURS then; another one for 1 HOUR more (behind HOUR 0 for 1).";
    private static final String CATCHES = "Behind that everybody who is in one CELL with another one that SNEEZES has a COLD "
        + "less by 1, 1 at least, from the next HOUR on (by several of these by 1 all the same).";
    private static final String READ = "EVENTS more, from a SHEET: its items, three for each, as many as are whole, "
        + "as long as each may be and there is room: how many came.";

    private static void sneezesDue(Check c, SneezeGuard x, int person, int... hours) {
        int next = 0;
        for (int hour = 0; hour < 24; hour++) {
            boolean does = next < hours.length && hours[next] == hour;
            if (does) next++;
            c.due("at(" + hour + ", " + person + ", 1)", x.at(hour, person, 1), does ? 1 : 0);
        }
    }

    private static void cellsDue(Check c, SneezeGuard x, int person, int... cells) {
        for (int hour = 0; hour < 24; hour++) {
            c.due("at(" + hour + ", " + person + ", 0)", x.at(hour, person, 0), cells[hour]);
        }
    }

    // ---- Terms: HOURS

    @Sentence(in = "Terms", says = HOURS)
    static void terms_hours_0And23Are(Check c) {
        SneezeGuard x = general();
        for (int hour : new int[] {0, 23}) {
            c.due("at(" + hour + ", 0, 1)", x.at(hour, 0, 1), 0);
            c.due("stood(" + hour + ", 0, 1)", x.stood(hour, 0, 1), hour == 0 ? 0 : 2);
            c.due("changes(" + hour + ")", x.changes(hour), 0);
            c.due("dust(" + hour + ", 1)", x.dust(hour, 1), 3);
            c.due("hush(" + hour + ", 1)", x.hush(hour, 1), 2);
            c.holds("seen(" + hour + ", 0, 0)", x.seen(hour, 0, 0) > 0);
            c.holds("event(2, " + hour + ", 0)", x.event(FROST, hour, 0) > 0);
            c.due("changes(" + hour + ") in a FROST", x.changes(hour), 1);
            x.back();
        }
    }

    @Sentence(in = "Terms", says = HOURS)
    static void terms_hours_below0AndFrom24OnAreNot(Check c) {
        SneezeGuard x = general();
        for (int hour : outside(24)) {
            c.due("at(" + hour + ", 0, 0)", x.at(hour, 0, 0), BAD);
            c.due("stood(" + hour + ", 0, 0)", x.stood(hour, 0, 0), BAD);
            c.due("changes(" + hour + ")", x.changes(hour), BAD);
            c.due("dust(" + hour + ", 0)", x.dust(hour, 0), BAD);
            c.due("hush(" + hour + ", 0)", x.hush(hour, 0), BAD);
            c.due("seen(" + hour + ", 0, 0)", x.seen(hour, 0, 0), BAD);
            c.due("event(2, " + hour + ", 0)", x.event(FROST, hour, 0), BAD);
        }
    }

    // ---- Terms: EVENTS

    @Sentence(in = "Terms", says = EVENTS)
    static void terms_events_8AtMost0On(Check c) {
        SneezeGuard x = general();
        for (int i = 1; i <= 8; i++) c.due("event " + i, x.event(FROST, i - 1, 0), i);
        c.due("event 9", x.event(FROST, 20, 0), FULL);
        c.due("count(4)", x.count(4), 8);
        c.due("changes(20): it did not come", x.changes(20), 0);
        // Each but the FROST of HOUR 7 by itself could not have been.
        for (int hour = 0; hour < 7; hour++) x.seen(hour, 0, 1);
        c.due("never(): the last is number 7", x.never(), 128);
        x.forget();
        for (int hour = 1; hour < 8; hour++) x.seen(hour, 0, 1);
        c.due("never(): the first is number 0", x.never(), 1);
    }

    @Sentence(in = "Terms", says = EVENTS)
    static void terms_events_kinds0To2(Check c) {
        SneezeGuard x = general();
        for (int kind = 0; kind < 3; kind++) c.due("event(" + kind + ", 0, 0)", x.event(kind, 0, 0), kind + 1);
        for (int kind : outside(3)) c.due("event(" + kind + ", 0, 0)", x.event(kind, 0, 0), BAD);
    }

    @Sentence(in = "Terms", says = EVENTS)
    static void terms_events_numbers0To9OfEachKind(Check c) {
        SneezeGuard x = general();
        for (int kind = 0; kind < 3; kind++) {
            c.due("event(" + kind + ", 5, 0)", x.event(kind, 5, 0), 2 * kind + 1);
            c.due("event(" + kind + ", 5, 9)", x.event(kind, 5, 9), 2 * kind + 2);
            for (int number : outside(10)) c.due("event(" + kind + ", 5, " + number + ")", x.event(kind, 5, number), BAD);
        }
    }

    @Sentence(in = "Terms", says = EVENTS)
    static void terms_events_pepperIn0AndIn9(Check c) {
        SneezeGuard x = guard("00;90", "p0e9;p9w9");
        x.event(PEPPER, 0, 0);
        c.due("changes(0) by PEPPER in 0", x.changes(0), 1);
        x.back();
        x.event(PEPPER, 0, 9);
        c.due("changes(0) by PEPPER in 9", x.changes(0), 2);
        x.event(PEPPER, 0, 0);
        c.due("changes(0) by both", x.changes(0), 3);
    }

    @Sentence(in = "Terms", says = EVENTS)
    static void terms_events_noseHeldOfPerson0AndOf5(Check c) {
        SneezeGuard x = withEvents(guard("", SIX_PEOPLE), frost(0), held(0, 0));
        for (int person = 0; person < 6; person++) c.due("at(0, " + person + ", 1)", x.at(0, person, 1), person == 0 ? 0 : 1);
        x.back();
        x.event(HELD, 0, 5);
        for (int person = 0; person < 6; person++) c.due("at(0, " + person + ", 1)", x.at(0, person, 1), person == 5 ? 0 : 1);
    }

    @Sentence(in = "Terms", says = EVENTS)
    static void terms_events_noseHeldOfOneThatThereIsNot(Check c) {
        SneezeGuard x = general();
        for (int person = 1; person < 9; person++) c.due("event(1, 8, " + person + ")", x.event(HELD, 8, person), person);
        c.due("changes(8)", x.changes(8), 1);
        tell(x, 1, ";g1e9");
        c.due("at(8, 1, 1): now there is", x.at(8, 1, 1), 0);
        c.due("at(8, 0, 1)", x.at(8, 0, 1), 1);
    }

    @Sentence(in = "Terms", says = EVENTS)
    static void terms_events_frostWhateverNumber(Check c) {
        for (int number = 0; number < 10; number++) {
            SneezeGuard x = guard("", SIX_PEOPLE);
            x.event(FROST, 0, number);
            for (int person = 0; person < 6; person++) c.due("at(0, " + person + ", 1)", x.at(0, person, 1), 1);
        }
    }

    // ---- Terms: an HOUR

    @Sentence(in = "Terms", says = WALKS)
    static void terms_walks_inHour0TheyAreWhereTheyBegin(Check c) {
        for (int cell = 0; cell < 10; cell++) {
            SneezeGuard x = guard("", "p" + cell + "e9;p" + cell + "w9");
            c.due("at(0, 0, 0)", x.at(0, 0, 0), cell);
            c.due("at(0, 1, 0)", x.at(0, 1, 0), cell);
        }
    }

    @Sentence(in = "Terms", says = WALKS)
    static void terms_walks_turnsBehindCell9(Check c) {
        SneezeGuard x = guard("", "p9e9;p8e9;p6e9");
        cellsDue(c, x, 0, 9, 8, 7, 6, 5, 4, 3, 2, 1, 0, 1, 2, 3, 4, 5, 6, 7, 8, 9, 8, 7, 6, 5, 4);
        cellsDue(c, x, 1, 8, 9, 8, 7, 6, 5, 4, 3, 2, 1, 0, 1, 2, 3, 4, 5, 6, 7, 8, 9, 8, 7, 6, 5);
        cellsDue(c, x, 2, 6, 7, 8, 9, 8, 7, 6, 5, 4, 3, 2, 1, 0, 1, 2, 3, 4, 5, 6, 7, 8, 9, 8, 7);
    }

    @Sentence(in = "Terms", says = WALKS)
    static void terms_walks_turnsAheadOfCell0(Check c) {
        SneezeGuard x = guard("", "p0w9;p1w9;p3w9");
        cellsDue(c, x, 0, 0, 1, 2, 3, 4, 5, 6, 7, 8, 9, 8, 7, 6, 5, 4, 3, 2, 1, 0, 1, 2, 3, 4, 5);
        cellsDue(c, x, 1, 1, 0, 1, 2, 3, 4, 5, 6, 7, 8, 9, 8, 7, 6, 5, 4, 3, 2, 1, 0, 1, 2, 3, 4);
        cellsDue(c, x, 2, 3, 2, 1, 0, 1, 2, 3, 4, 5, 6, 7, 8, 9, 8, 7, 6, 5, 4, 3, 2, 1, 0, 1, 2);
    }

    @Sentence(in = "Terms", says = SNEEZES)
    static void terms_sneezes_bothEndsOfColds(Check c) {
        sneezesDue(c, guard("", "p0e1"), 0, 0, 1, 2, 3, 4, 5, 6, 7, 8, 9, 10, 11, 12, 13, 14, 15, 16, 17, 18, 19, 20, 21, 22, 23);
        sneezesDue(c, guard("", "p0e2"), 0, 1, 3, 5, 7, 9, 11, 13, 15, 17, 19, 21, 23);
        sneezesDue(c, guard("", "p0e5"), 0, 4, 9, 14, 19);
        sneezesDue(c, guard("", "p0e8"), 0, 7, 15, 23);
        sneezesDue(c, guard("", "p0e9"), 0, 8, 17);
    }

    @Sentence(in = "Terms", says = SNEEZES)
    static void terms_sneezes_pepperInThatCellAndHourAlone(Check c) {
        // He is in CELL 4 in HOUR 4, behind going there.
        sneezesDue(c, withEvents(general(), pepper(4, 4)), 0, 4, 8, 17);
        sneezesDue(c, withEvents(general(), pepper(4, 3)), 0, 8, 17);
        sneezesDue(c, withEvents(general(), pepper(4, 5)), 0, 8, 17);
        sneezesDue(c, withEvents(general(), pepper(0, 0)), 0, 0, 8, 17);
        sneezesDue(c, withEvents(general(), pepper(9, 9)), 0, 8, 9, 17);
        sneezesDue(c, withEvents(general(), pepper(23, 5)), 0, 8, 17, 23);
        sneezesDue(c, withEvents(general(), pepper(8, 8)), 0, 8, 17);
    }

    @Sentence(in = "Terms", says = SNEEZES)
    static void terms_sneezes_allInAFrostOfThatHourAlone(Check c) {
        for (int hour : new int[] {0, 1, 22, 23}) {
            SneezeGuard x = withEvents(guard("", "p0e9;c3e9;g6w8"), frost(hour));
            for (int person = 0; person < 3; person++) {
                for (int other : new int[] {0, 1, 22, 23}) {
                    int due = other == hour || other == 23 && person == 2 ? 1 : 0;
                    c.due("at(" + other + ", " + person + ", 1) in a FROST of " + hour, x.at(other, person, 1), due);
                }
            }
        }
    }

    @Sentence(in = "Terms", says = SNEEZES)
    static void terms_sneezes_nobodyWhoseNoseIsHeld(Check c) {
        sneezesDue(c, withEvents(general(), held(8, 0)), 0, 17);
        sneezesDue(c, withEvents(general(), held(7, 0), held(9, 0)), 0, 8, 17);
        sneezesDue(c, withEvents(general(), held(8, 0), frost(8)), 0, 17);
        sneezesDue(c, withEvents(general(), frost(8), held(8, 0)), 0, 17);
        sneezesDue(c, withEvents(general(), pepper(0, 0), held(0, 0)), 0, 8, 17);
        sneezesDue(c, withEvents(general(), held(23, 0), pepper(23, 5)), 0, 8, 17);
    }

    @Sentence(in = "Terms", says = HEARS)
    static void terms_hears_noLessThanHowHardToBothSides(Check c) {
        int[] loud = {2, 4, 7};
        for (int sort = 0; sort < 3; sort++) {
            for (int hard = 0; hard < 4; hard++) {
                SneezeGuard up = guard("0" + hard, ""), down = guard("9" + hard, "");
                int far = loud[sort] - hard;
                for (int cell = 0; cell < 10; cell++) {
                    String who = "pcg".charAt(sort) + "" + cell + "e1";
                    retell(up, 1, who);
                    retell(down, 1, who);
                    c.due("of 0" + hard + " by " + who, up.changes(0), cell <= far ? 1 : 0);
                    c.due("of 9" + hard + " by " + who, down.changes(0), 9 - cell <= far ? 1 : 0);
                }
            }
        }
    }

    @Sentence(in = "Terms", says = HEARS)
    static void terms_hears_aPrincessInTheSameCell(Check c) {
        // LOUD 2 less 0: just heard by one that is HARD 2, never by one that is HARD 3.
        c.due("HARD 2", guard("42", "p4e1").changes(0), 1);
        c.due("HARD 2 from beside", guard("42;42", "p5e1").changes(0), 0);
        c.due("HARD 3", guard("43", "p4e1").changes(0), 0);
        c.due("HARD 3 all day", guard("03;13;23;33;43;53;63;73", "p4e1").all(), 0);
    }

    @Sentence(in = "Terms", says = CHANGED)
    static void terms_changed_byTheLeastThatIsHeard(Check c) {
        SneezeGuard x = guard("00", "p9e1;p1e1;g0e1;c0e1");
        c.due("stood(0, 0, 2): the first is not heard", x.stood(0, 0, 2), 1);
        x.event(HELD, 0, 1);
        c.due("stood(0, 0, 2): the second does not sneeze", x.stood(0, 0, 2), 2);
        x.event(HELD, 0, 2);
        c.due("stood(0, 0, 2): the last", x.stood(0, 0, 2), 3);
        x.event(HELD, 0, 3);
        c.due("stood(0, 0, 2): nobody", x.stood(0, 0, 2), NONE);
        c.due("stood(0, 0, 1)", x.stood(0, 0, 1), 0);
    }

    @Sentence(in = "Terms", says = CHANGED)
    static void terms_changed_onceHoweverManyAreHeard(Check c) {
        SneezeGuard x = guard("00", "g0e1;g0e1;g0e1;g0e1;g0e1;g0e1");
        c.due("stood(0, 0, 1)", x.stood(0, 0, 1), 1);
        c.due("stood(23, 0, 1): not in 8, 9 and 10 alone", x.stood(23, 0, 1), 21);
        c.due("all()", x.all(), 21);
    }

    @Sentence(in = "Terms", says = CHANGED)
    static void terms_changed_hasStood0(Check c) {
        SneezeGuard x = withEvents(general(), frost(0), frost(1), frost(23));
        c.due("stood(0, 0, 0)", x.stood(0, 0, 0), 0);
        c.due("stood(1, 0, 0)", x.stood(1, 0, 0), 0);
        c.due("stood(2, 0, 0)", x.stood(2, 0, 0), 1);
        c.due("stood(7, 0, 0)", x.stood(7, 0, 0), 6);
        c.due("stood(8, 0, 0)", x.stood(8, 0, 0), 0);
        c.due("stood(23, 0, 0)", x.stood(23, 0, 0), 0);
    }

    @Sentence(in = "Terms", says = CHANGED)
    static void terms_changed_anotherHasStood1BehindHour0(Check c) {
        SneezeGuard x = guard("50", "");
        for (int hour = 0; hour < 24; hour++) c.due("stood(" + hour + ", 0, 0)", x.stood(hour, 0, 0), hour + 1);
    }

    @Sentence(in = "Terms", says = CATCHES)
    static void terms_catches_1AtLeast(Check c) {
        // From HOUR 0 on both have 1 and sneeze in each HOUR.
        SneezeGuard x = guard("", "c0e1;c0e2");
        for (int hour = 0; hour < 24; hour++) {
            c.due("at(" + hour + ", 0, 3)", x.at(hour, 0, 3), 1);
            c.due("at(" + hour + ", 1, 3)", x.at(hour, 1, 3), 1);
        }
        sneezesDue(c, x, 1, 1, 2, 3, 4, 5, 6, 7, 8, 9, 10, 11, 12, 13, 14, 15, 16, 17, 18, 19, 20, 21, 22, 23);
    }

    @Sentence(in = "Terms", says = CATCHES)
    static void terms_catches_fromTheNextHourOn(Check c) {
        // They meet in HOUR 1: 3 does not divide 2, and 2 would. In HOUR 2 it is 2, which does not divide 3, and 3 would.
        SneezeGuard x = guard("", "c3e1;p5w3");
        c.due("at(0, 1, 3)", x.at(0, 1, 3), 3);
        c.due("at(1, 1, 1): COLD 3 as yet", x.at(1, 1, 1), 0);
        c.due("at(1, 1, 3)", x.at(1, 1, 3), 2);
        c.due("at(2, 1, 1): COLD 2 by then", x.at(2, 1, 1), 0);
        c.due("at(3, 1, 1)", x.at(3, 1, 1), 1);
        c.due("at(1, 1, 1) of COLD 2", guard("", "c3e1;p5w2").at(1, 1, 1), 1);
    }

    @Sentence(in = "Terms", says = CATCHES)
    static void terms_catches_bySeveralBy1(Check c) {
        SneezeGuard x = withEvents(guard("", "c0e9;c0e9;c0e9;c0e9;c0e9;c0e9"), frost(0));
        for (int person = 0; person < 6; person++) c.due("at(0, " + person + ", 3)", x.at(0, person, 3), 8);
    }

    @Sentence(in = "Terms", says = CATCHES)
    static void terms_catches_ofAnotherOneNotOfOneself(Check c) {
        SneezeGuard x = guard("", "c0e1;c0e9");
        c.due("at(0, 0, 3)", x.at(0, 0, 3), 1);
        c.due("at(0, 1, 3)", x.at(0, 1, 3), 8);
        x = withEvents(general(), frost(0));
        c.due("at(0, 0, 3): alone", x.at(0, 0, 3), 9);
        // Of two in a CELL one sneezes: the other has it, and does not sneeze for that.
        x = withEvents(guard("", "c0e9;c0e9"), held(8, 1));
        c.due("at(8, 0, 3)", x.at(8, 0, 3), 9);
        c.due("at(8, 1, 3)", x.at(8, 1, 3), 8);
    }

    @Sentence(in = "Terms", says = CATCHES)
    static void terms_catches_inOneCellNotBesideIt(Check c) {
        // They go by each other between HOURS 0 and 1, and are never in one CELL.
        SneezeGuard x = guard("", "c3e1;c4w9");
        c.due("at(23, 1, 3)", x.at(23, 1, 3), 9);
        c.due("at(0, 1, 3) in the same", guard("", "c3e1;c3w9").at(0, 1, 3), 8);
    }

    // ---- Promise 8: event

    @Sentence(in = "Promise 8: event", says = "An EVENT more: how many.")
    static void promise08_event_fromTheFirstToTheEighth(Check c) {
        SneezeGuard x = new SneezeGuard();
        for (int i = 1; i <= 8; i++) {
            c.due("event " + i + ", the like of those ahead", x.event(HELD, 23, 9), i);
            c.due("count(4)", x.count(4), i);
        }
    }

    @Sentence(in = "Promise 8: event", says = "BAD; FULL.")
    static void promise08_event_bad(Check c) {
        SneezeGuard x = general();
        long before = x.digest();
        for (int n : outside(3)) c.due("event(" + n + ", 0, 0)", x.event(n, 0, 0), BAD);
        for (int n : outside(24)) c.due("event(0, " + n + ", 0)", x.event(0, n, 0), BAD);
        for (int n : outside(10)) c.due("event(0, 0, " + n + ")", x.event(0, 0, n), BAD);
        c.due("event(2, 0, 10): a FROST too", x.event(FROST, 0, 10), BAD);
        c.due("event(2, 0, -1): a FROST too", x.event(FROST, 0, -1), BAD);
        c.due("digest(): as it was", x.digest(), before);
    }

    @Sentence(in = "Promise 8: event", says = "BAD; FULL.")
    static void promise08_event_full(Check c) {
        SneezeGuard x = general();
        for (int i = 0; i < 8; i++) x.event(HELD, 2, 3);
        c.due("event(2, 5, 0)", x.event(FROST, 5, 0), FULL);
        c.due("event(2, 5, 0): once more", x.event(FROST, 5, 0), FULL);
        c.due("changes(5)", x.changes(5), 0);
        c.due("count(4)", x.count(4), 8);
        x.back();
        c.due("event(2, 5, 0): room for one", x.event(FROST, 5, 0), 8);
        c.due("changes(5)", x.changes(5), 1);
        c.due("event(2, 5, 0)", x.event(FROST, 5, 0), FULL);
    }

    @Sentence(in = "Promise 8: event", says = "BAD; FULL.")
    static void promise08_event_badAheadOfFull(Check c) {
        SneezeGuard x = new SneezeGuard();
        for (int i = 0; i < 8; i++) x.event(HELD, 2, 3);
        c.due("event(3, 0, 0)", x.event(3, 0, 0), BAD);
        c.due("event(0, 24, 0)", x.event(0, 24, 0), BAD);
        c.due("event(0, 0, 10)", x.event(0, 0, 10), BAD);
    }

    // ---- Promise 9: back

    @Sentence(in = "Promise 9: back", says = "The last EVENT is undone: how many are left.")
    static void promise09_back_fromTheEighthToTheFirst(Check c) {
        SneezeGuard x = general();
        long before = x.digest();
        for (int hour = 0; hour < 8; hour++) x.event(FROST, hour, 0);
        for (int left = 7; left >= 0; left--) {
            c.due("back()", x.back(), left);
            c.due("changes(" + left + "): undone", x.changes(left), 0);
            if (left > 0) c.due("changes(" + (left - 1) + "): not yet", x.changes(left - 1), 1);
        }
        c.due("digest(): as it was", x.digest(), before);
    }

    @Sentence(in = "Promise 9: back", says = "NOT: there is none.")
    static void promise09_back_notWhereThereIsNone(Check c) {
        SneezeGuard x = general();
        c.due("back()", x.back(), NOT);
        x.event(FROST, 3, 0);
        c.due("back()", x.back(), 0);
        c.due("back()", x.back(), NOT);
        c.due("back(): once more", x.back(), NOT);
        c.due("count(4)", x.count(4), 0);
        c.due("event(2, 3, 0)", x.event(FROST, 3, 0), 1);
    }

    // ---- Promise 10: read

    @Sentence(in = "Promise 10: read", says = READ)
    static void promise10_read_asManyAsAreWhole(Check c) {
        for (int n = 0; n <= 7; n++) {
            SneezeGuard x = new SneezeGuard();
            x.sheet(0, BYTES, n);
            c.due("read(0) of " + n + " items", x.read(0), n / 3);
            c.due("count(4)", x.count(4), n / 3);
        }
    }

    @Sentence(in = "Promise 10: read", says = READ)
    static void promise10_read_asLongAsEachMayBe(Check c) {
        int[][] notOnes = {{3, 0, 0}, {-1, 0, 0}, {0, 24, 0}, {0, -1, 0}, {0, 0, 10}, {0, 0, -1}};
        for (int[] e : notOnes) {
            SneezeGuard x = new SneezeGuard();
            lay(x, 0, BYTES, e[0], e[1], e[2], FROST, 3, 0);
            c.due("read(0): the first may not be", x.read(0), 0);
            lay(x, 0, BYTES, 2, 23, 9, 0, 0, 0, e[0], e[1], e[2], FROST, 3, 0);
            c.due("read(0): the third may not be", x.read(0), 2);
            c.due("count(4)", x.count(4), 2);
        }
    }

    @Sentence(in = "Promise 10: read", says = READ)
    static void promise10_read_asLongAsThereIsRoom(Check c) {
        SneezeGuard x = general();
        x.sheet(0, BYTES, 60);
        c.due("read(0): 8 of 20", x.read(0), 8);
        c.due("read(0): no room", x.read(0), 0);
        c.due("count(4)", x.count(4), 8);
        x.back();
        lay(x, 1, INTS, FROST, 3, 0, FROST, 4, 0);
        c.due("read(1): 1 of 2", x.read(1), 1);
        c.due("changes(3)", x.changes(3), 1);
        c.due("changes(4)", x.changes(4), 0);
    }

    @Sentence(in = "Promise 10: read", says = READ)
    static void promise10_read_ofEachForm(Check c) {
        for (int form = 0; form < 3; form++) {
            SneezeGuard x = general();
            lay(x, 3, form, HELD, 8, 0, FROST, 23, 9);
            c.due("read(3) of FORM " + form, x.read(3), 2);
            c.due("changes(8)", x.changes(8), 0);
            c.due("changes(23)", x.changes(23), 1);
            itemsDue(c, x, 3, form, HELD, 8, 0, FROST, 23, 9);
        }
    }

    @Sentence(in = "Promise 10: read", says = READ)
    static void promise10_read_whatTheLowestBitsMadeOfIt(Check c) {
        SneezeGuard x = general();
        // 258 is 2 as a byte, and not as a short.
        lay(x, 0, BYTES, 258, 3, 0);
        lay(x, 1, SHORTS, 258, 3, 0);
        c.due("read(0)", x.read(0), 1);
        c.due("read(1)", x.read(1), 0);
        c.due("changes(3)", x.changes(3), 1);
    }

    @Sentence(in = "Promise 10: read", says = "BAD; NULL.")
    static void promise10_read_bad(Check c) {
        SneezeGuard x = new SneezeGuard();
        for (int n : outside(4)) c.due("read(" + n + ")", x.read(n), BAD);
        c.due("count(8): no FINDING", x.count(8), 0);
        c.due("count(4)", x.count(4), 0);
    }

    @Sentence(in = "Promise 10: read", says = "BAD; NULL.")
    static void promise10_read_null(Check c) {
        SneezeGuard x = new SneezeGuard();
        for (int s = 0; s < 4; s++) c.due("read(" + s + ")", x.read(s), NULL);
        c.due("count(8)", x.count(8), 1);
        x.sheet(3, SHORTS, 3);
        x.lose(3);
        c.due("read(3) of one that was LOST", x.read(3), NULL);
        c.due("count(4)", x.count(4), 0);
        for (int i = 0; i < 8; i++) x.event(HELD, 2, 3);
        c.due("read(3) where there is no room", x.read(3), NULL);
    }
}
