import java.util.Random;

/** Random runs of calls, each answer against the Oracle's. The seeds stand, so the runs are always the same. */
public final class OracleTest {
    private static final int RUNS = 400;
    private static final int CALLS = 150;

    private final Random dice;
    private final SneezeGuard guard = new SneezeGuard();
    private final Oracle oracle = new Oracle();
    private final Check check;

    private OracleTest(long seed, Check check) {
        this.dice = new Random(seed);
        this.check = check;
    }

    public static void main(String[] args) {
        Check check = new Check();
        for (int run = 0; run < RUNS && !check.anyWrong(); run++) {
            OracleTest test = new OracleTest(run, check);
            if (run % 8 != 0) test.tellTexts();
            if (run % 3 == 0) test.tellEvents();
            for (int call = 0; call < CALLS; call++) test.oneCall("run " + run + " call " + call + ": ");
            check.due("run " + run + ": digest()", test.guard.digest(), test.oracle.digest());
        }
        check.end("OracleTest");
    }

    /** Mostly a number from 0 below the bound, at times one at or beyond an edge. */
    private int pick(int bound) {
        int die = dice.nextInt(40);
        if (die == 0) return bound;
        if (die == 1) return -1;
        if (die == 2) return dice.nextBoolean() ? Integer.MAX_VALUE : Integer.MIN_VALUE;
        return dice.nextInt(bound);
    }

    private int sign(String signs) {
        return signs.charAt(dice.nextInt(signs.length()));
    }

    private void add(int text, int b) {
        check.due("type(" + text + ", " + b + ")", guard.type(text, b), oracle.type(text, b));
    }

    private void tellTexts() {
        int posts = dice.nextInt(9), people = dice.nextInt(7);
        for (int i = 0; i < posts; i++) {
            if (i > 0) add(0, ';');
            add(0, sign("0123456789"));
            add(0, sign("0123"));
        }
        for (int i = 0; i < people; i++) {
            if (i > 0) add(1, ';');
            add(1, sign("pcg"));
            add(1, sign("0123456789"));
            add(1, sign("ew"));
            add(1, sign(dice.nextBoolean() ? "123456789" : "6789"));
        }
    }

    private void tellEvents() {
        int n = dice.nextInt(9);
        for (int i = 0; i < n; i++) oneEvent();
    }

    private void oneEvent() {
        int kind = dice.nextInt(3), hour = dice.nextInt(24);
        int number = kind == 1 ? dice.nextInt(6) : dice.nextInt(10);
        check.due("event(" + kind + ", " + hour + ", " + number + ")",
            guard.event(kind, hour, number), oracle.event(kind, hour, number));
    }

    private void oneCall(String where) {
        int die = dice.nextInt(100);
        if (die < 8) textCall(where);
        else if (die < 16) eventCall(where);
        else if (die < 40) hourCall(where);
        else if (die < 54) planCall(where);
        else if (die < 70) seenCall(where);
        else sheetCall(where);
    }

    private void textCall(String where) {
        int text = pick(2);
        int die = dice.nextInt(12);
        if (die < 3) {
            int b = dice.nextInt(4) == 0 ? pick(256) : sign("0123456789pcgew;;;");
            check.due(where + "type(" + text + ", " + b + ")", guard.type(text, b), oracle.type(text, b));
        } else if (die < 6) {
            check.due(where + "undo(" + text + ")", guard.undo(text), oracle.undo(text));
        } else if (die == 6 && dice.nextInt(8) == 0) {
            check.due(where + "wipe(" + text + ")", guard.wipe(text), oracle.wipe(text));
            if (dice.nextBoolean()) tellTexts();
        } else {
            check.due(where + "fault(" + text + ")", guard.fault(text), oracle.fault(text));
        }
        int thing = pick(8), what = pick(4);
        check.due(where + "post(" + thing + ", " + what + ")", guard.post(thing, what), oracle.post(thing, what));
        check.due(where + "person(" + thing + ", " + what + ")", guard.person(thing, what), oracle.person(thing, what));
    }

    private void eventCall(String where) {
        int kind = pick(3), hour = pick(24), number = pick(10), s = pick(4);
        switch (dice.nextInt(6)) {
            case 0: case 1:
                oneEvent();
                break;
            case 2:
                check.due(where + "event(" + kind + ", " + hour + ", " + number + ")",
                    guard.event(kind, hour, number), oracle.event(kind, hour, number));
                break;
            case 3:
                check.due(where + "back()", guard.back(), oracle.back());
                break;
            default:
                if (dice.nextBoolean()) fillForReading(s);
                check.due(where + "read(" + s + ")", guard.read(s), oracle.read(s));
        }
    }

    private void fillForReading(int s) {
        int form = dice.nextInt(3), n = dice.nextInt(14);
        check.due("sheet(" + s + ", " + form + ", " + n + ")", guard.sheet(s, form, n), oracle.sheet(s, form, n));
        for (int i = 0; i < n; i++) {
            int v = i % 3 == 0 ? dice.nextInt(3) : i % 3 == 1 ? dice.nextInt(24) : dice.nextInt(10);
            if (dice.nextInt(20) == 0) v = pick(25);
            check.due("lay(" + s + ", " + form + ", " + i + ", " + v + ")",
                guard.lay(s, form, i, v), oracle.lay(s, form, i, v));
        }
    }

    private void hourCall(String where) {
        int hour = pick(24), one = dice.nextBoolean() ? pick(3) : pick(8), what = pick(4);
        check.due(where + "at(" + hour + ", " + one + ", " + what + ")",
            guard.at(hour, one, what), oracle.at(hour, one, what));
        check.due(where + "stood(" + hour + ", " + one + ", " + what + ")",
            guard.stood(hour, one, what), oracle.stood(hour, one, what));
        check.due(where + "changes(" + hour + ")", guard.changes(hour), oracle.changes(hour));
        check.due(where + "forgotten()", guard.forgotten(), oracle.day().forgotten());
        check.due(where + "longest(" + what + ")", guard.longest(what), oracle.longest(what));
        check.due(where + "all()", guard.all(), oracle.day().all());
        check.due(where + "busy()", guard.busy(), oracle.busy());
        check.due(where + "quiet()", guard.quiet(), oracle.quiet());
    }

    private void planCall(String where) {
        int hour = pick(24), person = pick(6), what = pick(2), i = dice.nextInt(5) - 2;
        switch (dice.nextInt(4)) {
            case 0:
                check.due(where + "stroll(" + person + ", " + what + ")",
                    guard.stroll(person, what), oracle.stroll(person, what));
                break;
            case 1:
                check.due(where + "dust(" + hour + ", " + what + ")", guard.dust(hour, what), oracle.dust(hour, what));
                break;
            case 2:
                check.due(where + "hush(" + hour + ", " + what + ")", guard.hush(hour, what), oracle.hush(hour, what));
                break;
            default:
                check.due(where + "spare(" + i + ")", guard.spare(i), oracle.spare(i));
        }
    }

    private void seenCall(String where) {
        int hour = pick(24), post = pick(8), is = pick(2), person = pick(6), c = pick(17), n = pick(9);
        int seed = dice.nextInt();
        switch (dice.nextInt(8)) {
            case 0: case 1:
                // Mostly what really comes out so: otherwise nothing would be left to suppose.
                if (dice.nextInt(4) != 0 && !Oracle.bad(hour, 24) && !Oracle.bad(post, 8)) {
                    is = oracle.changes(hour) >> post & 1;
                }
                check.due(where + "seen(" + hour + ", " + post + ", " + is + ")",
                    guard.seen(hour, post, is), oracle.seen(hour, post, is));
                break;
            case 2:
                if (dice.nextInt(3) == 0) check.due(where + "forget()", guard.forget(), oracle.forget());
                break;
            case 3:
                check.due(where + "never()", guard.never(), oracle.never());
                break;
            case 4:
                check.due(where + "was(" + person + ", " + is + ")", guard.was(person, is), oracle.was(person, is));
                break;
            case 5:
                check.due(where + "ask(" + person + ")", guard.ask(person), oracle.ask(person));
                break;
            case 6:
                if (dice.nextInt(3) != 0) break;
                check.due(where + "chance(" + c + ", " + post + ", " + is + ")",
                    guard.chance(c, post, is), oracle.chance(c, post, is));
                break;
            default:
                check.due(where + "decades(" + seed + ", " + n + ", " + is + ")",
                    guard.decades(seed, n, is), oracle.decades(seed, n, is));
        }
    }

    private void sheetCall(String where) {
        int s = pick(4), t = pick(4), form = pick(3), i = pick(30), j = pick(30), n = pick(61);
        int v = dice.nextBoolean() ? dice.nextInt() : dice.nextInt(300);
        switch (dice.nextInt(9)) {
            case 0: case 1:
                check.due(where + "sheet(" + s + ", " + form + ", " + n + ")",
                    guard.sheet(s, form, n), oracle.sheet(s, form, n));
                break;
            case 2:
                if (dice.nextInt(3) == 0) check.due(where + "lose(" + s + ")", guard.lose(s), oracle.lose(s));
                break;
            case 3: case 4:
                if (!Oracle.bad(s, 4) && dice.nextInt(4) != 0) form = oracle.forms[s];
                check.due(where + "lay(" + s + ", " + form + ", " + i + ", " + v + ")",
                    guard.lay(s, form, i, v), oracle.lay(s, form, i, v));
                break;
            case 5:
                n = pick(15);
                if (dice.nextInt(3) == 0) t = s;
                check.due(where + "copy(" + s + ", " + i + ", " + t + ", " + j + ", " + n + ")",
                    guard.copy(s, i, t, j, n), oracle.copy(s, i, t, j, n));
                break;
            case 6:
                j = pick(8);
                check.due(where + "write(" + j + ", " + s + ")", guard.write(j, s), oracle.write(j, s));
                break;
            default:
                if (!Oracle.bad(s, 4) && dice.nextInt(4) != 0) form = oracle.forms[s];
                check.due(where + "get(" + s + ", " + form + ", " + i + ")",
                    guard.get(s, form, i), oracle.get(s, form, i));
        }
        compareSheet(where, dice.nextInt(4));
        int what = pick(9);
        check.due(where + "count(" + what + ")", guard.count(what), oracle.count(what));
        check.due(where + "count(8)", guard.count(8), oracle.count(8));
    }

    private void compareSheet(String where, int s) {
        if (oracle.sheets[s] == null) return;
        for (int i = 0; i < oracle.sheets[s].length; i++) {
            check.due(where + "item " + i + " of " + s, guard.get(s, oracle.forms[s], i), oracle.sheets[s][i]);
        }
    }
}
