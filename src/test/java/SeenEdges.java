/** What was SEEN, DOCKETS that EXPLAIN it, and TERMS by a seed, at their edges. */
final class SeenEdges {
    private static final int NONE = -1;
    private static final long NO_SUCH = Due.NO_SUCH;

    /** Docket 0 1: both are barred on days 0 1. Docket 1 0: both are barred on days 1 2. */
    private static final String EITHER = "book 9;book 5;case 0 2 0;case 0 1 1;plain 0 1 6 0 0;plain 0 1 6 2 2;";

    private final Due due;

    SeenEdges(Due due) {
        this.due = due;
    }

    @Says("SEEN (at most 10)")
    void atMostTen() {
        BookBridge b = Due.bridge(EITHER);
        for (int i = 1; i <= 10; i++) {
            due.is("see " + i, i, () -> b.see(inTurn(b), 1, false));
        }
        due.is("an eleventh", NONE, () -> b.see(0, 1, false));
        due.is("ten", 10, () -> b.count(7));
        due.is("both dockets explain ten", 2, b::explains);
        due.is("one is forgotten", 9, b::forget);
        due.is("another comes", 10, () -> b.see(1, 0, true));
        due.is("the tenth counts", 1, b::explains);
        due.is("by docket 1 0", 1, b::first);
        due.is("one more", NONE, () -> b.see(1, 0, false));
        due.is("changes nothing", 1, b::explains);
    }

    /** Either walker in turn. */
    private static int inTurn(BookBridge b) {
        return b.count(7) % 2;
    }

    @Says("a WALKER CROSSED on a DAY (0 to 63), or could not.")
    void crossedOrCouldNot() {
        String longest = "book 9;book 5;" + "case 0 9 0;".repeat(6) + "case 0 9 1;plain 0 1 6 5 5;";
        int[][] seen = {{0, 1, 720}, {0, 0, 4320}, {8, 1, 720}, {62, 1, 720}, {62, 0, 4320}, {63, 1, 5040}, {63, 0, 0}};
        for (int[] row : seen) {
            BookBridge b = Due.bridge(longest);
            due.is("seen on " + row[0] + " " + row[1], 1, () -> b.see(0, row[0], row[1] == 1));
            due.is("explained on " + row[0] + " " + row[1], row[2], b::explains);
        }
        BookBridge b = Due.bridge(longest);
        due.is("day 64", NONE, () -> b.see(0, 64, true));
        due.is("day -1", NO_SUCH, () -> b.see(0, -1, true));
        due.is("nothing seen", 0, () -> b.count(7));
    }

    @Says("DOCKETS that EXPLAIN it: how many of all, by which all was so")
    void howManyOfAll() {
        int all = 1;
        for (int i = 0; i <= 7; i++) {
            all *= Math.max(i, 1);
            BookBridge b = Due.bridge("book 9;" + "case 0 1 0;".repeat(i) + "plain 0 0 0 0 0;");
            due.is("nothing seen, cases: " + i, all, b::explains);
            int day = i;
            due.is("see " + i, 1, () -> b.see(0, day, true));
            due.is("behind the term, cases: " + i, all, b::explains);
            due.is("see once more " + i, 2, () -> b.see(0, 0, true));
            due.is("in the term, cases: " + i, i == 0 ? 1 : 0, b::explains);
        }
        BookBridge b = Due.bridge(EITHER);
        b.see(0, 1, false);
        due.is("both", 2, b::explains);
        b.see(0, 0, true);
        due.is("one of them", 1, b::explains);
        b.see(1, 2, true);
        due.is("what was seen first and last can't both be", 0, b::explains);
    }

    @Says(promise = 23, value = "DOCKETS that EXPLAIN what was SEEN: how many")
    void whoWasSeen() {
        BookBridge b = Due.bridge("book 9;book 5;case 0 2 0;case 0 1 1;plain 0 1 6 0 0;plain 0 2 6 0 0;plain 0 0 6 0 0;plain 0 0 0 0 0;");
        int[][] seen = {{0, 0, 1, 1}, {0, 0, 0, 1}, {1, 0, 1, 2}, {1, 0, 0, 0}, {2, 0, 1, 0}, {2, 0, 0, 2}, {3, 0, 0, 2},
            {3, 3, 1, 2}, {2, 3, 1, 0}};
        for (int[] row : seen) {
            due.is("see", 1, () -> b.see(row[0], row[1], row[2] == 1));
            due.is("walker " + row[0] + " on day " + row[1] + ": " + row[2], row[3], b::explains);
            due.is("forget", 0, b::forget);
        }
        for (int i = 1; i <= 10; i++) {
            int walker = i % 2 + 1;
            due.is("see " + i, i, () -> b.see(walker, 0, walker == 1));
        }
        due.is("ten by two walkers", 2, b::explains);
    }

    @Says(promise = 23, value = "how many; the first is kept.")
    void explainedAnew() {
        BookBridge b = new BookBridge();
        int[] cases = {7, 2, 7, 3, 1, 0, 6, 4, 5, 6, 7};
        int[] dockets = {1, 1, 2, 6, 24, 120, 720, 5040};
        for (int many : cases) {
            due.is("cases " + many, 0, () -> Due.river(b, "book 9;" + "case 0 1 0;".repeat(many)));
            due.is("dockets of " + many, dockets[many], b::explains);
            due.is("once more of " + many, dockets[many], b::explains);
            due.is("first of " + many, 06543210 & (1 << 3 * many) - 1, b::first);
        }
    }

    @Says("on a DAY CASES heard by all of these (sure ones), by some.")
    void sureOnesAndSome() {
        BookBridge b = Due.bridge("book 9;book 5;" + "case 0 9 0;".repeat(6) + "case 0 9 1;plain 0 1 6 5 5;");
        int[] days = {0, 8, 9, 62};
        for (int day : days) {
            due.is("nothing seen, sure on " + day, 0, () -> b.heard(day, true));
            due.is("nothing seen, some on " + day, 127, () -> b.heard(day, false));
        }
        int[] behind = {63, 64, 99};
        for (int day : behind) {
            due.is("sure on " + day, 0, () -> b.heard(day, true));
            due.is("some on " + day, 0, () -> b.heard(day, false));
        }
        b.see(0, 62, true);
        due.is("the last case on its first day", 64, () -> b.heard(54, true));
        due.is("the last case on its last day", 64, () -> b.heard(62, true));
        due.is("and no other one", 64, () -> b.heard(62, false));
        due.is("the day ahead of it", 0, () -> b.heard(53, true));
        due.is("all others", 63, () -> b.heard(53, false));
        BookBridge one = Due.bridge("book 9;case 0 9 0;");
        due.is("one docket: sure", 1, () -> one.heard(8, true));
        due.is("one docket: some", 1, () -> one.heard(8, false));
        due.is("one docket: behind", 0, () -> one.heard(9, true));
    }

    @Says(promise = 21, value = "SEEN: how many there are. NONE (STATUS 2): there are 10, the DAY is above 63.")
    void seeOrNone() {
        BookBridge b = Due.bridge(EITHER);
        due.is("day 0", 1, () -> b.see(0, 0, false));
        due.is("day 63", 2, () -> b.see(1, 63, true));
        int[] late = {64, 65, 98, 99};
        for (int i = 0; i < late.length; i++) {
            int day = late[i];
            due.is("day " + day, NONE, () -> b.see(0, day, true));
            due.is("is refused " + day, i + 1, () -> b.count(11));
        }
        due.is("none of these is seen", 2, () -> b.count(7));
        for (int i = 3; i <= 10; i++) {
            due.is("see " + i, i, () -> b.see(0, 63, true));
        }
        due.is("there are ten", NONE, () -> b.see(0, 63, true));
        due.is("is refused", 5, () -> b.count(11));
        due.is("ten and too late", NONE, () -> b.see(0, 64, true));
        due.is("is refused once", 6, () -> b.count(11));
        due.is("nothing else is", 0, () -> b.count(9) + b.count(10));
        due.is("ten", 10, () -> b.count(7));
    }

    @Says(promise = 21, value = "NoSuchElementException (ahead): no such WALKER, the DAY below 0 or above 99.")
    void noSuchAhead() {
        BookBridge b = Due.bridge(EITHER);
        for (int turn = 0; turn < 2; turn++) {
            int[] days = {-1, 100, Integer.MIN_VALUE, Integer.MAX_VALUE};
            for (int day : days) {
                due.is("day " + day, NO_SUCH, () -> b.see(0, day, true));
            }
            int[] walkers = {-1, 2, Integer.MIN_VALUE, Integer.MAX_VALUE};
            for (int walker : walkers) {
                due.is("walker " + walker, NO_SUCH, () -> b.see(walker, 0, true));
                due.is("too late, walker " + walker, NO_SUCH, () -> b.see(walker, 64, true));
            }
            due.is("these are not refused", 0, () -> b.count(11));
            due.is("nor seen", 10 * turn, () -> b.count(7));
            for (int i = 1; i <= 10 - 10 * turn; i++) {
                due.is("see " + i, i, () -> b.see(0, 5, true));
            }
        }
    }

    @Says(promise = 22, value = "What was SEEN last is forgotten: how many are left. NONE: there are none.")
    void forget() {
        BookBridge b = Due.bridge(EITHER);
        due.is("nothing seen", NONE, b::forget);
        b.see(0, 2, true);
        b.see(0, 0, true);
        due.is("none explains both", 0, b::explains);
        due.is("the last is forgotten", 1, b::forget);
        due.is("the first is left", 1, b::explains);
        due.is("by docket 0 1", 8, b::first);
        due.is("none are left", 0, b::forget);
        due.is("both dockets", 2, b::explains);
        due.is("no more", NONE, b::forget);
        due.is("count", 0, () -> b.count(7));
        due.is("not refused", 0, () -> b.count(11));
        for (int i = 1; i <= 10; i++) {
            b.see(0, 1, false);
        }
        for (int i = 9; i >= 0; i--) {
            due.is("left " + i, i, b::forget);
        }
        due.is("none", NONE, b::forget);
        due.is("none of a new object", NONE, new BookBridge()::forget);
    }

    @Says(promise = 23, value = "DOCKETS that EXPLAIN what was SEEN: how many; the first is kept.")
    void firstIsKept() {
        BookBridge b = Due.bridge("book 9;book 5;" + "case 0 1 0;".repeat(6) + "case 0 1 1;plain 0 1 6 5 5;");
        due.is("all", 5040, b::explains);
        due.is("the first of all", 06543210, b::first);
        b.see(0, 0, true);
        due.is("case 6 is the first", 720, b::explains);
        due.is("the first of these", Due.row8(6, 0, 1, 2, 3, 4, 5), b::first);
        b.forget();
        b.see(0, 6, true);
        due.is("case 6 is the last", 720, b::explains);
        due.is("the first of those", 06543210, b::first);
        b.forget();
        b.see(0, 5, true);
        due.is("case 6 is the sixth", 720, b::explains);
        due.is("its first", Due.row8(0, 1, 2, 3, 4, 6, 5), b::first);
        due.is("the DOCKET is as it was", 6, () -> b.hearing(6, 4));
        BookBridge none = Due.bridge("plain 0 0 0 0 0;");
        due.is("no CASES", 1, none::explains);
        due.is("the empty one", 0, none::first);
        none.see(0, 0, false);
        due.is("no CASES, and it can't be", 0, none::explains);
        due.is("none is kept", NO_SUCH, none::first);
    }

    @Says(promise = 24, value = "On a DAY CASES heard by all that EXPLAIN (sure true), by some, as bits (0, if there are none).")
    void noneExplains() {
        BookBridge b = Due.bridge(EITHER);
        b.see(0, 0, true);
        due.is("one explains: sure", 2, () -> b.heard(0, true));
        due.is("one explains: some", 2, () -> b.heard(0, false));
        b.see(0, 2, true);
        for (int i = 0; i < 4; i++) {
            int day = i;
            due.is("none explains: sure on " + i, 0, () -> b.heard(day, true));
            due.is("none explains: some on " + i, 0, () -> b.heard(day, false));
        }
        b.forget();
        due.is("one explains again", 2, () -> b.heard(0, true));
        due.is("explains() is no matter", NO_SUCH, b::first);
    }

    @Says(promise = 25, value = "The first DOCKET that EXPLAINED by the latest explains(), as figures.")
    void byTheLatestExplains() {
        BookBridge b = Due.bridge(EITHER);
        due.is("both", 2, b::explains);
        due.is("the first", 8, b::first);
        b.see(0, 0, true);
        due.is("as long as there is no other explains()", 8, b::first);
        b.docket(1);
        b.lay(1);
        b.heard(0, true);
        b.best(0);
        b.terms(0, 1, 5);
        b.image();
        b.restore();
        due.is("whatever else is called", 8, b::first);
        due.is("one", 1, b::explains);
        due.is("the last docket", 1, b::first);
        due.is("again", 1, b::first);
        b.forget();
        due.is("what is forgotten since is no matter", 1, b::first);
        BookBridge seven = Due.bridge("book 9;book 5;case 0 1 1;" + "case 0 1 0;".repeat(6) + "plain 0 1 6 0 0;");
        seven.see(0, 6, true);
        due.is("case 0 is the last", 720, seven::explains);
        due.is("seven figures, the first one lowest", 00654321, seven::first);
    }

    @Says(promise = 25, value = "NoSuchElementException: there was none, or no explains() since the RIVER came.")
    void noFirst() {
        BookBridge b = new BookBridge();
        due.is("a new object", NO_SUCH, b::first);
        due.is("its only docket", 1, b::explains);
        due.is("is empty", 0, b::first);
        due.is("a river", 0, () -> Due.river(b, EITHER));
        due.is("no explains()", NO_SUCH, b::first);
        b.explains();
        due.is("an explains()", 8, b::first);
        b.see(0, 0, true);
        b.see(0, 2, true);
        due.is("of the latest explains()", 8, b::first);
        due.is("none", 0, b::explains);
        due.is("there was none", NO_SUCH, b::first);
        b.forget();
        due.is("it stays so without another", NO_SUCH, b::first);
        due.is("one", 1, b::explains);
        due.is("there was one", 1, b::first);
        due.is("a FAULT", 1, () -> Due.river(b, "x"));
        due.is("leaves it", 1, b::first);
        due.is("the same river", 0, () -> Due.river(b, EITHER));
        due.is("no explains() since", NO_SUCH, b::first);
    }

    @Says(promise = 26, value = "TERMS (0 to 40) by a seed: how often a WALKER GETS OVER.")
    void zeroToForty() {
        BookBridge b = Due.bridge(EITHER + "plain 0 2 6 0 0;plain 0 0 6 0 63;");
        for (int i = 0; i <= 40; i++) {
            int terms = i;
            due.is("always, terms " + i, i, () -> b.terms(2, 3, terms));
            due.is("never, terms " + i, 0, () -> b.terms(3, 3, terms));
        }
        // Of two cases the second first, of terms 1, 2, 39, 40.
        int[][] often = {{0, 0, 0, 17, 17}, {1, 0, 1, 19, 20}, {-1, 1, 1, 21, 21}, {7, 0, 0, 16, 16},
            {-987654321, 1, 2, 16, 16}};
        int[] terms = {1, 2, 39, 40};
        for (int[] row : often) {
            for (int i = 0; i < 4; i++) {
                int many = terms[i];
                due.is("seed " + row[0] + " terms " + many, row[i + 1], () -> b.terms(0, row[0], many));
                due.is("the others of seed " + row[0] + " terms " + many, many - row[i + 1], () -> b.terms(1, row[0], many));
            }
        }
        due.is("the DOCKET is as it was", 0, () -> b.hearing(0, 3));
        due.is("no CASES", 40, () -> Due.bridge("plain 0 0 0 0 0;").terms(0, 1, 40));
        due.is("no CASES, and barred", 0, () -> Due.bridge("book 1;plain 0 0 2 0 63;").terms(0, 1, 40));
        due.is("one CASE", 40, () -> Due.bridge("book 1;case 0 9 0;plain 0 0 0 9 9;").terms(0, 1, 40));
    }

    @Says(promise = 26, value = "IllegalArgumentException (behind NoSuchElementException): how many.")
    void howManyTerms() {
        BookBridge b = Due.bridge(EITHER);
        int[] wrong = {-1, 41, 42, Integer.MIN_VALUE, Integer.MAX_VALUE};
        for (int terms : wrong) {
            due.is("terms " + terms, Due.ILLEGAL, () -> b.terms(0, 1, terms));
            due.is("the last walker, terms " + terms, Due.ILLEGAL, () -> b.terms(1, 1, terms));
            due.is("no such walker, terms " + terms, NO_SUCH, () -> b.terms(2, 1, terms));
            due.is("no such walker below, terms " + terms, NO_SUCH, () -> b.terms(-1, 1, terms));
        }
        due.is("no such walker", NO_SUCH, () -> b.terms(2, 1, 0));
    }

    @Says("each time a DOCKET is drawn: of CASES that are left, the least first, one by a DRAW of how many there are, again and again")
    void drawnDockets() {
        // The first two dockets by each seed, as a separate script drew them.
        int[] seeds = {0, 1, -1, Integer.MAX_VALUE, Integer.MIN_VALUE};
        int[][] first = {{0, 1, 5, 3, 2, 6, 4}, {3, 5, 4, 6, 1, 2, 0}, {4, 6, 2, 3, 1, 0, 5}, {4, 6, 2, 3, 1, 0, 5},
            {0, 1, 5, 3, 2, 6, 4}};
        int[][] second = {{1, 3, 0, 4, 5, 6, 2}, {6, 0, 2, 3, 5, 1, 4}, {3, 5, 6, 1, 2, 4, 0}, {3, 5, 6, 1, 2, 4, 0},
            {1, 3, 0, 4, 5, 6, 2}};
        for (int i = 0; i < 7; i++) {
            int heard = i;
            BookBridge early = heardOn(i, 0);
            BookBridge late = heardOn(i, 4);
            for (int j = 0; j < 7; j++) {
                int day = j;
                BookBridge b = j < 4 ? early : late;
                for (int k = 0; k < seeds.length; k++) {
                    int seed = seeds[k];
                    int one = first[k][day] == heard ? 1 : 0;
                    int two = one + (second[k][day] == heard ? 1 : 0);
                    due.is("case " + i + " on day " + j + " by " + seed, one, () -> b.terms(day % 4, seed, 1));
                    due.is("case " + i + " on day " + j + " by " + seed + ", two", two, () -> b.terms(day % 4, seed, 2));
                }
            }
        }
    }

    /** Walkers, one for each of four days, who get over if that case is heard then: it alone takes no plank that bears. */
    private static BookBridge heardOn(int hearing, int from) {
        StringBuilder text = new StringBuilder("book 9;book 5;");
        for (int i = 0; i < 7; i++) {
            text.append("case 0 1 ").append(i == hearing ? 1 : 0).append(';');
        }
        for (int day = from; day < from + 4; day++) {
            text.append("plain 0 1 6 ").append(day).append(' ').append(day).append(';');
        }
        return Due.bridge(text.toString());
    }

    @Says("A seed becomes itself times 1103515245 and 12345 (an int that wraps); a DRAW of n is its bits 16 to 30 MOD n then.")
    void seedThatWraps() {
        BookBridge b = Due.bridge("book 9;book 5;" + "case 0 1 0;".repeat(6) + "case 0 1 1;plain 0 1 6 0 0;plain 0 1 6 6 6;");
        // How often case 6 is the first, and the last, of 39 and of 40.
        int[][] often = {{0, 9, 9, 5, 5}, {1, 7, 8, 7, 7}, {-1, 3, 4, 7, 7}, {7, 4, 4, 6, 6},
            {Integer.MAX_VALUE, 3, 4, 7, 7}, {Integer.MIN_VALUE, 9, 9, 5, 5}, {123456789, 7, 7, 6, 7},
            {-987654321, 3, 3, 8, 8}};
        for (int[] row : often) {
            due.is("first of 39 by " + row[0], row[1], () -> b.terms(0, row[0], 39));
            due.is("first of 40 by " + row[0], row[2], () -> b.terms(0, row[0], 40));
            due.is("last of 39 by " + row[0], row[3], () -> b.terms(1, row[0], 39));
            due.is("last of 40 by " + row[0], row[4], () -> b.terms(1, row[0], 40));
        }
    }
}
