/** What the boundary tests share: the numbers that the document tells, and guards to begin with. */
abstract class Guards {
    // As the document tells them, not as the class does: else a wrong constant would not be seen.
    static final int NONE = -1, BAD = -2, NOT = -3, FULL = -4;
    static final int NULL = -11, INDEX = -12, CAST = -13, STORE = -14, SIZE = -15;
    static final int LEAST = -2147483648, MOST = 2147483647;
    static final int PEPPER = 0, HELD = 1, FROST = 2;
    static final int BYTES = 0, SHORTS = 1, INTS = 2;
    static final String EIGHT_POSTS = "00;11;22;33;40;51;62;73";
    static final String SIX_PEOPLE = "p0e1;c1w2;g2e3;p3w4;c4e5;g9w9";

    /** The numbers beside 0 to bound - 1 at both ends, and some far off, of which the lowest bits would fit. */
    static int[] outside(int bound) {
        return new int[] {-1, bound, -2, bound + 1, LEAST, MOST, 256, -256, 65536, LEAST + 1};
    }

    static SneezeGuard guard(String posts, String people) {
        SneezeGuard x = new SneezeGuard();
        tell(x, 0, posts);
        tell(x, 1, people);
        return x;
    }

    static void tell(SneezeGuard x, int text, String signs) {
        for (char sign : signs.toCharArray()) x.type(text, sign);
    }

    static void retell(SneezeGuard x, int text, String signs) {
        x.wipe(text);
        tell(x, text, signs);
    }

    /** He goes up from CELL 0 and down again, is heard everywhere by the one POST, and sneezes in HOURS 8 and 17. */
    static SneezeGuard general() {
        return guard("50", "g0e9");
    }

    static SneezeGuard withEvents(SneezeGuard x, int[]... events) {
        for (int[] e : events) x.event(e[0], e[1], e[2]);
        return x;
    }

    static int[] pepper(int hour, int cell) {
        return new int[] {PEPPER, hour, cell};
    }

    static int[] held(int hour, int person) {
        return new int[] {HELD, hour, person};
    }

    static int[] frost(int hour) {
        return new int[] {FROST, hour, 0};
    }

    static void lay(SneezeGuard x, int s, int form, int... values) {
        x.sheet(s, form, values.length);
        for (int i = 0; i < values.length; i++) x.lay(s, form, i, values[i]);
    }

    static void itemsDue(Check c, SneezeGuard x, int s, int form, int... want) {
        for (int i = 0; i < want.length; i++) c.due("item " + i + " of SHEET " + s, x.get(s, form, i), want[i]);
    }
}
