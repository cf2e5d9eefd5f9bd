import java.util.ArrayList;
import java.util.List;

/** The face, the refusals, and the last of an object's calls: 'What it is', 'The public face', 'Terms'. */
final class RefusalBoundaries extends Guards {
    private static final String CALLS = "An object is used for at most 512 calls after it has been made; "
        + "what later calls answer is free.";
    private static final String CONSTANTS = "public static final int NONE = -1, BAD = -2, NOT = -3, FULL = -4;";
    private static final String REFUSALS = "Refusals, the first that fits, in the order told at each act: "
        + "BAD -2 (a number not as told, no such thing), NULL, NOT -3 (as told), FULL -4, other FINDINGS.";
    private static final String CHANGE_NOTHING = "They change nothing (FINDINGS but count() 8).";
    private static final String LONGS = "Where the answer is a long, a refusal -x is the least long and x more.";

    /** Both texts, EVENTS and SEEN are full; SHEETS 0 and 1 are there, of unlike FORMS, 3 is long; 2 is LOST. */
    private static SneezeGuard fullOne() {
        SneezeGuard x = guard(EIGHT_POSTS, SIX_PEOPLE);
        withEvents(x, pepper(8, 8), held(8, 5), frost(0), held(23, 0), pepper(7, 0), frost(12), held(12, 2), held(3, 3));
        for (int i = 0; i < 8; i++) x.seen(i, i, i % 2);
        lay(x, 0, BYTES, 1, -2, 3);
        lay(x, 1, SHORTS, 300, -400);
        x.sheet(3, INTS, 60);
        x.lay(3, INTS, 59, 70000);
        return x;
    }

    /** All that an object answers of its state, taken from it piece by piece; it is as new behind that. */
    private static List<Long> takenApart(SneezeGuard x) {
        List<Long> told = new ArrayList<>();
        for (int what = 0; what < 8; what++) told.add((long) x.count(what));
        for (int i = 0; i < 3; i++) told.add((long) x.get(0, BYTES, i));
        for (int i = 0; i < 2; i++) told.add((long) x.get(1, SHORTS, i));
        for (int i = 0; i < 60; i += 59) told.add((long) x.get(3, INTS, i));
        for (int s = 0; s < 4; s++) told.add((long) x.lose(s));
        told.add(x.digest());
        for (int i = 0; i < 9; i++) {
            told.add((long) x.back());
            told.add((long) x.never());
        }
        told.add((long) x.forget());
        told.add(x.digest());
        for (int i = 0; i < 24; i++) {
            told.add((long) x.undo(0));
            told.add((long) x.fault(0));
        }
        for (int i = 0; i < 30; i++) {
            told.add((long) x.undo(1));
            told.add((long) x.fault(1));
        }
        return told;
    }

    private static void likeDue(Check c, SneezeGuard x, SneezeGuard y) {
        List<Long> got = takenApart(x), want = takenApart(y);
        for (int i = 0; i < want.size(); i++) c.due("answer " + i + " of all", got.get(i), want.get(i));
    }

    // ---- What it is, The public face

    @Sentence(in = "What it is", says = CALLS)
    static void calls_the512thAnswersAsTheFirst(Check c) {
        SneezeGuard x = new SneezeGuard();
        long fresh = x.digest();
        for (int i = 0; i < 102; i++) {
            c.due("type(0, 53)", x.type(0, '5'), 1);
            c.due("undo(0)", x.undo(0), 0);
            c.due("sheet(0, 2, 60)", x.sheet(0, INTS, 60), 60);
            c.due("lose(0)", x.lose(0), 60);
            c.due("event(3, 0, 0)", x.event(3, 0, 0), BAD);
        }
        c.due("call 512, digest()", x.digest(), fresh);
    }

    @Sentence(in = "What it is", says = CALLS)
    static void calls_the512thOfTheDearest(Check c) {
        // 77 calls fill it.
        SneezeGuard x = fullOne();
        long first = x.digest();
        for (int call = 79; call <= 512; call++) c.due("call " + call + ", digest()", x.digest(), first);
    }

    @Sentence(in = "The public face", says = CONSTANTS)
    static void face_constants(Check c) {
        c.due("NONE", SneezeGuard.NONE, -1);
        c.due("BAD", SneezeGuard.BAD, -2);
        c.due("NOT", SneezeGuard.NOT, -3);
        c.due("FULL", SneezeGuard.FULL, -4);
    }

    // ---- Refusals

    @Sentence(in = "Terms", says = REFUSALS)
    static void refusals_areTheNumbersTold(Check c) {
        SneezeGuard x = fullOne(), fresh = new SneezeGuard();
        c.due("BAD: a number not as told", x.type(2, 53), -2);
        c.due("BAD: no such thing", fresh.post(0, 0), -2);
        c.due("NULL", fresh.lose(0), -11);
        c.due("NOT", fresh.back(), -3);
        c.due("FULL", x.type(0, 53), -4);
        c.due("INDEX", x.lay(0, BYTES, 3, 0), -12);
        c.due("CAST", x.lay(0, SHORTS, 0, 0), -13);
        c.due("STORE", x.copy(0, 0, 1, 0, 0), -14);
        c.due("SIZE", x.sheet(0, 0, -1), -15);
    }

    @Sentence(in = "Terms", says = REFUSALS)
    static void refusals_badAheadOfNull(Check c) {
        SneezeGuard x = general();
        c.due("write(1, 0)", x.write(1, 0), BAD);
        c.due("lay(0, 3, 0, 0)", x.lay(0, 3, 0, 0), BAD);
        c.due("copy(0, 0, 4, 0, 0)", x.copy(0, 0, 4, 0, 0), BAD);
        c.due("copy(4, 0, 0, 0, 0)", x.copy(4, 0, 0, 0, 0), BAD);
        c.due("get(0, 3, 0)", x.get(0, 3, 0), LEAST);
        c.due("count(8)", x.count(8), 0);
    }

    @Sentence(in = "Terms", says = REFUSALS)
    static void refusals_badAheadOfNot(Check c) {
        SneezeGuard x = new SneezeGuard();
        for (int n : outside(2)) c.due("undo(" + n + ")", x.undo(n), BAD);
        c.due("undo(0)", x.undo(0), NOT);
    }

    @Sentence(in = "Terms", says = REFUSALS)
    static void refusals_badAheadOfFull(Check c) {
        SneezeGuard x = fullOne();
        c.due("type(0, 256)", x.type(0, 256), BAD);
        c.due("type(1, -1)", x.type(1, -1), BAD);
        c.due("event(0, 0, 10)", x.event(0, 0, 10), BAD);
        c.due("seen(0, 8, 0)", x.seen(0, 8, 0), BAD);
        c.due("type(0, 255)", x.type(0, 255), FULL);
        c.due("type(1, 0)", x.type(1, 0), FULL);
        c.due("event(0, 0, 9)", x.event(0, 0, 9), FULL);
        c.due("seen(0, 7, 0)", x.seen(0, 7, 0), FULL);
    }

    @Sentence(in = "Terms", says = REFUSALS)
    static void refusals_badAndNullAheadOfOtherFindings(Check c) {
        SneezeGuard x = fullOne();
        c.due("sheet(0, 3, -1): BAD, SIZE", x.sheet(0, 3, -1), BAD);
        c.due("lay(0, 3, 9, 0): BAD, INDEX", x.lay(0, 3, 9, 0), BAD);
        c.due("copy(0, 9, 4, 0, 0): BAD, INDEX", x.copy(0, 9, 4, 0, 0), BAD);
        c.due("lay(2, 0, 9, 0): NULL, INDEX", x.lay(2, 0, 9, 0), NULL);
        c.due("copy(0, 9, 2, 9, 0): NULL, INDEX", x.copy(0, 9, 2, 9, 0), NULL);
        c.due("lay(0, 1, 9, 0): CAST, INDEX", x.lay(0, 1, 9, 0), CAST);
        c.due("copy(0, 9, 1, 9, 0): STORE, INDEX", x.copy(0, 9, 1, 9, 0), STORE);
    }

    @Sentence(in = "Terms", says = CHANGE_NOTHING)
    static void refusals_changeNothingWhereTextsEventsAndSeenAreFull(Check c) {
        SneezeGuard x = fullOne();
        c.due("type(0, 53)", x.type(0, '5'), FULL);
        c.due("type(1, 59)", x.type(1, ';'), FULL);
        c.due("event(2, 5, 0)", x.event(FROST, 5, 0), FULL);
        c.due("seen(8, 0, 1)", x.seen(8, 0, 1), FULL);
        c.due("read(0): none comes", x.read(0), 0);
        c.due("count(8)", x.count(8), 0);
        likeDue(c, x, fullOne());
    }

    @Sentence(in = "Terms", says = CHANGE_NOTHING)
    static void refusals_changeNothingWhereNumbersAreBad(Check c) {
        SneezeGuard x = fullOne();
        for (int n : new int[] {-1, 300, LEAST, MOST}) {
            int[] answers = {x.type(n, 53), x.type(0, n), x.wipe(n), x.undo(n), x.fault(n), x.post(n, 0), x.post(0, n),
                x.person(n, 0), x.person(0, n), x.event(n, 0, 0), x.event(0, n, 0), x.event(0, 0, n), x.read(n),
                x.at(n, 0, 0), x.at(0, n, 0), x.at(0, 0, n), x.stood(n, 0, 0), x.stood(0, n, 0), x.stood(0, 0, n),
                x.changes(n), x.longest(n), x.stroll(n, 0), x.stroll(0, n), x.dust(n, 0), x.dust(0, n), x.hush(n, 0),
                x.hush(0, n), x.spare(n == -1 ? -2 : n), x.seen(n, 0, 0), x.seen(0, n, 0), x.seen(0, 0, n), x.was(n, 0),
                x.was(0, n), x.ask(n), x.decades(0, n, 0), x.decades(0, 0, n), x.sheet(n, 0, 1), x.sheet(0, n, 1), x.lose(n),
                x.lay(n, 0, 0, 9), x.lay(0, n, 0, 9), x.copy(n, 0, 0, 0, 1), x.copy(0, 0, n, 0, 1), x.write(n, 0), x.write(0, n),
                x.count(n)};
            for (int i = 0; i < answers.length; i++) c.due("answer " + i + " of " + n, answers[i], BAD);
            c.due("get(" + n + ", 0, 0)", x.get(n, 0, 0), LEAST);
            c.due("get(0, " + n + ", 0)", x.get(0, n, 0), LEAST);
        }
        c.due("sheet(0, 0, 61)", x.sheet(0, 0, 61), BAD);
        c.due("count(8)", x.count(8), 0);
        likeDue(c, x, fullOne());
    }

    @Sentence(in = "Terms", says = CHANGE_NOTHING)
    static void refusals_changeNothingBesidesCount8ByFindings(Check c) {
        SneezeGuard x = fullOne();
        c.due("read(2)", x.read(2), NULL);
        c.due("lose(2)", x.lose(2), NULL);
        c.due("lay(2, 0, 0, 9)", x.lay(2, 0, 0, 9), NULL);
        c.due("copy(0, 0, 2, 0, 1)", x.copy(0, 0, 2, 0, 1), NULL);
        c.due("copy(2, 0, 0, 0, 1)", x.copy(2, 0, 0, 0, 1), NULL);
        c.due("write(0, 2)", x.write(0, 2), NULL);
        c.due("get(2, 0, 0)", x.get(2, 0, 0), LEAST);
        c.due("count(8)", x.count(8), 1);
        c.due("lay(0, 1, 0, 9)", x.lay(0, SHORTS, 0, 9), CAST);
        c.due("count(8)", x.count(8), 3);
        c.due("lay(0, 0, 3, 9)", x.lay(0, BYTES, 3, 9), INDEX);
        c.due("copy(0, 1, 0, 0, 3)", x.copy(0, 1, 0, 0, 3), INDEX);
        c.due("count(8)", x.count(8), 2);
        c.due("copy(0, 0, 1, 0, 1)", x.copy(0, 0, 1, 0, 1), STORE);
        c.due("count(8)", x.count(8), 4);
        c.due("sheet(0, 1, -1)", x.sheet(0, SHORTS, -1), SIZE);
        c.due("sheet(2, 1, -1)", x.sheet(2, SHORTS, -1), SIZE);
        c.due("count(8)", x.count(8), 5);
        likeDue(c, x, fullOne());
    }

    @Sentence(in = "Terms", says = CHANGE_NOTHING)
    static void refusals_changeNothingWhereThereIsNothingToUndo(Check c) {
        SneezeGuard x = new SneezeGuard();
        c.due("undo(0)", x.undo(0), NOT);
        c.due("undo(1)", x.undo(1), NOT);
        c.due("back()", x.back(), NOT);
        likeDue(c, x, new SneezeGuard());
    }

    @Sentence(in = "Terms", says = LONGS)
    static void refusals_ofALongAreTheLeastLongAndMore(Check c) {
        SneezeGuard x = general();
        long bad = -9223372036854775808L + 2;
        c.due("chance(17, 0, 0)", x.chance(17, 0, 0), bad);
        c.due("chance(8, 1, 1)", x.chance(8, 1, 1), bad);
        c.due("chance(8, 0, -1)", x.chance(8, 0, -1), bad);
        c.due("chance(8, 0, 0): 0 is none", x.chance(8, 0, 0), 0);
    }
}
