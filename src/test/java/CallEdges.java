import java.util.function.IntFunction;

/** Arguments of calls at their first and last value and one beyond; objects without BOOKS, CASES or WALKERS. */
final class CallEdges {
    private static final int NONE = -1;
    private static final long NO_SUCH = Due.NO_SUCH;
    private static final int[] FAR = {Integer.MIN_VALUE, Integer.MIN_VALUE + 1, -100, -2, -1};

    /** As many of all as there may be, each number at its most; 10 BOOKS, 7 CASES, 5 WALKERS. */
    private static final String MOST = "book20;".repeat(10) + "case1 9 0 1 2 3 4 5 6 7 8 9;".repeat(7)
            + "plain1 6 20 63 63;farmer1 6 20 63 63;cart1 6 20 63 63;judge1 6 20 63 63;judge1 6 20 63 63;"
            + "flood0;flood1;flood2;flood3;flood63;fee99;wear9;";

    private final Due due;

    CallEdges(Due due) {
        this.due = due;
    }

    /** Below 0 and from the first beyond on, to the ends of all numbers, there is nothing. */
    private void nothingBeyond(String what, int first, IntFunction<Due.Call> call) {
        for (int far : FAR) {
            due.is(what + " " + far, NO_SUCH, call.apply(far));
        }
        int[] beyond = {first, first + 1, first + 16, first + 32, first + 64, first + 256, Integer.MAX_VALUE - 1,
            Integer.MAX_VALUE};
        for (int far : beyond) {
            due.is(what + " " + far, NO_SUCH, call.apply(far));
        }
    }

    private void answers(String what, int[] want, IntFunction<Due.Call> call) {
        for (int i = 0; i < want.length; i++) {
            due.is(what + " " + i, want[i], call.apply(i));
        }
        nothingBeyond(what, want.length, call);
    }

    @Says(promise = 1, value = "No BOOKS, no CASES, no WALKERS.")
    void newObject() {
        BookBridge b = new BookBridge();
        answers("count", new int[] {0, 0, 0, 0, 1, 0, 0, 0, 0, 0, 0, 0}, what -> () -> b.count(what));
        nothingBeyond("book", 0, book -> () -> b.book(book, 0));
        nothingBeyond("hearing", 0, hearing -> () -> b.hearing(hearing, 0));
        nothingBeyond("walker", 0, walker -> () -> b.walker(walker, 0));
        BookBridge c = new BookBridge();
        noCases(c);
        noWalkers(c);
        due.is("no fault", NONE, c::fault);
        due.yes("no image", !c.restore());
        due.is("nothing seen", NONE, c::forget);
        answers("lays", new int[] {0, 0, 0}, what -> () -> c.lays(what));
        answers("best", new int[] {0, 0, 0}, what -> () -> c.best(what));
        due.is("nothing found", NO_SUCH, new BookBridge()::first);
    }

    @Says("The constants: `NONE = -1`: There is none.")
    void none() throws ReflectiveOperationException {
        int none = BookBridge.class.getField("NONE").getInt(null);
        due.is("NONE", -1, () -> none);
        due.is("no fault", none, new BookBridge()::fault);
        due.is("nothing to forget", none, new BookBridge()::forget);
    }

    private void noCases(BookBridge b) {
        due.is("no term", 0, () -> b.count(6));
        int[] days = {0, 1, 63, 64, 99};
        for (int day : days) {
            due.is("no BOOK is up on " + day, 0, () -> b.up(day, 0));
            due.is("no CASE is heard on " + day, 0, () -> b.up(day, 1));
            due.is("none is sure on " + day, 0, () -> b.heard(day, true));
            due.is("none is heard by some on " + day, 0, () -> b.heard(day, false));
        }
        due.is("one docket", 1, b::explains);
        due.is("which is empty", 0, b::first);
        due.is("the best of all", 0, () -> b.best(0));
        due.is("whose term is short", 0, () -> b.best(2));
        due.yes("it can be told", b.docket(0));
        due.yes("no other one", !b.docket(1));
    }

    private void noWalkers(BookBridge b) {
        due.is("planks", NO_SUCH, () -> b.planks(0, 0));
        due.is("crosses", NO_SUCH, () -> b.crosses(0, 0));
        due.is("bar", NO_SUCH, () -> b.bar(0, 0));
        due.is("over", NO_SUCH, () -> b.over(0));
        due.is("suit", NO_SUCH, () -> b.suit(0, 0));
        due.is("settled", NO_SUCH, () -> b.settled(0, 0));
        due.is("feud", NO_SUCH, () -> b.feud(0, 1, 0, 0));
        due.is("feud of one", NO_SUCH, () -> b.feud(0, 0, 0, 0));
        due.is("see", NO_SUCH, () -> b.see(0, 0, true));
        due.is("see too late", NO_SUCH, () -> b.see(0, 64, true));
        due.is("terms", NO_SUCH, () -> b.terms(0, 0, 0));
        due.is("too many terms", NO_SUCH, () -> b.terms(0, 0, 41));
        due.is("nobody gets over", 0, () -> b.best(1));
        due.is("nothing is refused by that", 0, () -> b.count(11));
    }

    @Says("Behind it (and without CASES) nothing is UP.")
    void withoutCases() {
        BookBridge b = Due.bridge("book 9;book 8;plain 0 0 8 5 6;plain 0 0 9 5 6;");
        noCases(b);
        due.is("the first laying", Due.row16(0, 1), () -> b.lays(0));
        due.is("no gap", 0, () -> b.lays(1));
        due.is("no wide gap", 0, () -> b.lays(2));
        due.is("over on the first day", 5, () -> b.over(0));
        due.is("not over", NONE, () -> b.over(1));
        due.is("one gets over", 1, () -> b.best(1));
        due.is("nothing to settle", 0, () -> b.settled(0, 0));
        due.is("none to settle", NONE, () -> b.settled(1, 0));
        due.is("a suit", 1, () -> b.suit(0, 0));
        due.is("each time", 40, () -> b.terms(0, 5, 40));
        due.is("at no time", 0, () -> b.terms(1, 5, 40));
        due.is("no CASE", NO_SUCH, () -> b.hearing(0, 0));
    }

    /** There is no sentence of its own for a bridge without planks: no GAP is there, so all CROSS. */
    @Says("He CROSSES, if he can step over, or wade through, all GAPS.")
    void withoutBooks() {
        BookBridge b = Due.bridge("plain 0 0 20 7 9;farmer 0 0 20 0 0;cart 1 0 20 63 63;judge 1 0 20 0 63;flood 7;wear 9;fee 9;");
        int[] from = {7, 0, 63, 0};
        for (int i = 0; i < 4; i++) {
            int walker = i;
            due.is("planks " + i, 0, () -> b.planks(walker, 7));
            due.is("crosses " + i, 0, () -> b.crosses(walker, 7));
            due.is("bar " + i, NONE, () -> b.bar(walker, 7));
            due.is("over " + i, from[i], () -> b.over(walker));
            due.is("suit " + i, NONE, () -> b.suit(walker, 7));
            due.is("settled " + i, 0, () -> b.settled(walker, 7));
            due.is("terms " + i, 3, () -> b.terms(walker, 7, 3));
        }
        due.is("feud", 1, () -> b.feud(0, 3, 7, 0));
        due.is("feud rests at none", 0, () -> b.feud(0, 3, 7, 1));
        due.is("all get over", 4, () -> b.best(1));
        due.is("lays", 0, () -> b.lays(0));
        due.is("longest", 0, () -> b.lays(1));
        due.is("wide", 0, () -> b.lays(2));
        due.yes("laid", b.lay(0));
        due.yes("not laid", !b.lay(1));
        due.is("no BOOK", NO_SUCH, () -> b.book(0, 0));
        noCases(b);
    }

    @Says(promise = 16, value = "how many GET OVER (1)")
    void withoutWalkers() {
        BookBridge b = Due.bridge("book 9;case 0 2 0;case 1 3 0;");
        noWalkers(b);
        due.is("the first docket", Due.row8(0, 1), () -> b.best(0));
        due.is("its term", 5, () -> b.best(2));
        due.is("both explain", 2, b::explains);
        due.is("the first of them", Due.row8(0, 1), b::first);
        due.is("either is heard on the first day", 3, () -> b.heard(0, false));
        due.is("neither surely", 0, () -> b.heard(0, true));
        due.is("the longer one surely on day 2", 2, () -> b.heard(2, true));
    }

    @Says(promise = 5, value = "0 BOOKS, 1 CASES, 2 WALKERS, 3 FLOODS, 4 FEE, 5 WEAR, 6 how LONG THE TERM is, 7 SEEN, "
            + "8 bytes of the tape, 9 to 11 STATUS 0 to 2. NoSuchElementException: another what.")
    void count() {
        BookBridge b = Due.bridge(MOST);
        for (int i = 0; i < 12; i++) {
            b.see(0, i, false);
        }
        for (int i = 0; i < 25; i++) {
            b.feed(0, 0, 0, 0, 0);
        }
        b.docket(0);
        answers("count", new int[] {10, 7, 5, 5, 99, 9, 63, 10, 500, 0, 1, 2}, what -> () -> b.count(what));
        due.is("a text of a byte 0", 1, () -> b.river(1));
        due.is("no text", Due.ILLEGAL, () -> b.river(1));
        b.lay(0);
        b.docket(0);
        answers("count again", new int[] {10, 7, 5, 5, 99, 9, 63, 10, 0, 1, 3, 2}, what -> () -> b.count(what));
    }

    @Says(promise = 6, value = "0 STRENGTH as told, 1 its place on the BRIDGE, 2 CASES that QUOTE it (bits).")
    void bookWhat() {
        BookBridge b = Due.bridge("book1;book20;book 3;" + "case0 9 1;".repeat(7) + "wear 9;");
        answers("book 1", new int[] {20, 1, 127}, what -> () -> b.book(1, what));
        answers("book 0", new int[] {1, 0, 0}, what -> () -> b.book(0, what));
        b.lay(Due.row16(1, 2, 0));
        answers("book 1, laid first", new int[] {20, 0, 127}, what -> () -> b.book(1, what));
        answers("book 0, laid last", new int[] {1, 2, 0}, what -> () -> b.book(0, what));
    }

    @Says(promise = 6, value = "NoSuchElementException: no such BOOK (as everywhere), what.")
    void noSuchBook() {
        BookBridge b = Due.bridge("book1;book20;book3;");
        answers("book", new int[] {1, 20, 3}, book -> () -> b.book(book, 0));
        BookBridge ten = Due.bridge(MOST);
        answers("of ten", new int[] {0, 1, 2, 3, 4, 5, 6, 7, 8, 9}, book -> () -> ten.book(book, 1));
        due.is("neither", NO_SUCH, () -> b.book(3, 3));
        due.is("neither, below", NO_SUCH, () -> b.book(-1, -1));
    }

    @Says(promise = 7, value = "0 COURT, 1 DAYS, 2 BOOKS that it QUOTES (bits), 3 the DAY on which it BEGINS, "
            + "4 its place in the DOCKET.")
    void hearingWhat() {
        BookBridge b = Due.bridge(MOST);
        answers("hearing 6", new int[] {1, 9, 1023, 54, 6}, what -> () -> b.hearing(6, what));
        b.docket(Due.row8(6, 0, 1, 2, 3, 4, 5));
        answers("hearing 6, first", new int[] {1, 9, 1023, 0, 0}, what -> () -> b.hearing(6, what));
        BookBridge one = Due.bridge("book 1;case 0 1 0;");
        answers("the least", new int[] {0, 1, 1, 0, 0}, what -> () -> one.hearing(0, what));
    }

    @Says(promise = 7, value = "NoSuchElementException: no such CASE (as everywhere), what.")
    void noSuchCase() {
        BookBridge b = Due.bridge("book 1;case 0 4 0;case 0 5 0;");
        answers("hearing", new int[] {4, 5}, hearing -> () -> b.hearing(hearing, 1));
        BookBridge seven = Due.bridge(MOST);
        answers("of seven", new int[] {0, 9, 18, 27, 36, 45, 54}, hearing -> () -> seven.hearing(hearing, 3));
        due.is("neither", NO_SUCH, () -> b.hearing(2, 5));
    }

    @Says(promise = 8, value = "0 KIND, 1 SIDE, 2 LEGS, 3 LOAD, 4 FROM, 5 TO.")
    void walkerWhat() {
        BookBridge b = Due.bridge("plain 0 0 0 0 0;judge 1 6 20 62 63;farmer 1 5 19 1 2;cart 0 4 3 2 2;");
        answers("the least", new int[] {0, 0, 0, 0, 0, 0}, what -> () -> b.walker(0, what));
        answers("the most", new int[] {3, 1, 6, 20, 62, 63}, what -> () -> b.walker(1, what));
        answers("a farmer", new int[] {1, 1, 5, 19, 1, 2}, what -> () -> b.walker(2, what));
        answers("a cart", new int[] {2, 0, 4, 3, 2, 2}, what -> () -> b.walker(3, what));
    }

    @Says(promise = 8, value = "NoSuchElementException: no such WALKER (as everywhere), what.")
    void noSuchWalker() {
        BookBridge b = Due.bridge("plain 0 0 0 3 9;judge 0 0 0 4 9;");
        answers("walker", new int[] {3, 4}, walker -> () -> b.walker(walker, 4));
        BookBridge five = Due.bridge(MOST);
        answers("of five", new int[] {0, 1, 2, 3, 3}, walker -> () -> five.walker(walker, 0));
        due.is("neither", NO_SUCH, () -> b.walker(2, 6));
        int[] zeros = {0, 0};
        answers("planks", zeros, walker -> () -> b.planks(walker, 0));
        answers("crosses", zeros, walker -> () -> b.crosses(walker, 0));
        answers("bar", new int[] {NONE, NONE}, walker -> () -> b.bar(walker, 0));
        answers("over", new int[] {3, 4}, walker -> () -> b.over(walker));
        answers("suit", new int[] {NONE, NONE}, walker -> () -> b.suit(walker, 0));
        answers("settled", zeros, walker -> () -> b.settled(walker, 0));
        answers("terms", new int[] {7, 7}, walker -> () -> b.terms(walker, 0, 7));
        answers("see", new int[] {1, 2}, walker -> () -> b.see(walker, 0, true));
        due.is("neither is refused", 2, () -> b.count(7) + b.count(11));
        nothingBeyond("feud", 2, walker -> () -> b.feud(walker, 0, 0, 0));
        nothingBeyond("feud with", 2, walker -> () -> b.feud(0, walker, 0, 0));
    }

    @Says(promise = 11, value = "NoSuchElementException: no such DAY (0 to 99, as everywhere), another what.")
    void noSuchDay() {
        BookBridge b = Due.bridge("book 9;case 0 9 0;plain 0 0 0 0 9;plain 0 1 0 0 9;");
        int[] last = {9, 62, 63, 64, 98, 99};
        for (int day : last) {
            due.is("up " + day, 0, () -> b.up(day, 0));
            due.is("heard cases " + day, 0, () -> b.up(day, 1));
            due.is("planks " + day, 1, () -> b.planks(0, day));
            due.is("crosses " + day, 0, () -> b.crosses(0, day));
            due.is("bar " + day, NONE, () -> b.bar(0, day));
            due.is("suit " + day, 1, () -> b.suit(0, day));
            due.is("settled " + day, 0, () -> b.settled(0, day));
            due.is("feud " + day, 16, () -> b.feud(1, 0, day, 1));
            due.is("heard " + day, 0, () -> b.heard(day, false));
        }
        due.is("up 0", 1, () -> b.up(0, 0));
        due.is("planks 0", 0, () -> b.planks(0, 0));
        due.is("crosses 0", NONE, () -> b.crosses(0, 0));
        due.is("bar 0", 1, () -> b.bar(0, 0));
        due.is("suit 0", 0, () -> b.suit(0, 0));
        due.is("settled 0", 1, () -> b.settled(0, 0));
        due.is("feud 0", 0, () -> b.feud(1, 0, 0, 1));
        due.is("heard 0", 1, () -> b.heard(0, true));
        nothingBeyond("up", 100, day -> () -> b.up(day, 0));
        nothingBeyond("heard cases", 100, day -> () -> b.up(day, 1));
        nothingBeyond("planks", 100, day -> () -> b.planks(0, day));
        nothingBeyond("crosses", 100, day -> () -> b.crosses(0, day));
        nothingBeyond("bar", 100, day -> () -> b.bar(0, day));
        nothingBeyond("suit", 100, day -> () -> b.suit(0, day));
        nothingBeyond("settled", 100, day -> () -> b.settled(0, day));
        nothingBeyond("feud", 100, day -> () -> b.feud(0, 1, day, 0));
        nothingBeyond("heard", 100, day -> () -> b.heard(day, true));
        nothingBeyond("see", 100, day -> () -> b.see(0, day, true));
        answers("up's what", new int[] {1, 1}, what -> () -> b.up(0, what));
        due.is("neither", NO_SUCH, () -> b.up(100, 2));
    }

    @Says(promise = 16, value = "NoSuchElementException: another what.")
    void bestWhat() {
        BookBridge b = Due.bridge("book 9;case 0 2 0;case 0 3 0;plain 0 0 0 0 9;");
        answers("best", new int[] {8, 1, 5}, what -> () -> b.best(what));
        BookBridge none = new BookBridge();
        nothingBeyond("of a new object", 3, what -> () -> none.best(what));
    }

    @Says(promise = 17, value = "NoSuchElementException: another what.")
    void laysWhat() {
        BookBridge b = Due.bridge("book 9;book 9;case 0 2 0 1;");
        answers("lays", new int[] {16, 2, 2}, what -> () -> b.lays(what));
        BookBridge spent = Due.bridge("book 9;".repeat(8));
        answers("SPENT", new int[] {-2, -2, -2}, what -> () -> spent.lays(what));
    }

    @Says(promise = 20, value = "NoSuchElementException: also another what.")
    void feudWhat() {
        BookBridge b = Due.bridge("book 9;plain 0 0 0 0 9;plain 0 1 0 0 9;");
        answers("feud", new int[] {2, 1}, what -> () -> b.feud(0, 1, 0, what));
    }

    @Says(promise = 20, value = "IllegalArgumentException (behind that): both are one.")
    void feudOfOne() {
        BookBridge b = Due.bridge("book 9;plain 0 0 0 0 9;plain 0 1 0 0 9;");
        due.is("the first", Due.ILLEGAL, () -> b.feud(0, 0, 0, 0));
        due.is("the last", Due.ILLEGAL, () -> b.feud(1, 1, 99, 1));
        due.is("no such walker", NO_SUCH, () -> b.feud(2, 2, 0, 0));
        due.is("no such walker, below", NO_SUCH, () -> b.feud(-1, -1, 0, 0));
        due.is("no such day", NO_SUCH, () -> b.feud(0, 0, 100, 0));
        due.is("no such day, below", NO_SUCH, () -> b.feud(0, 0, -1, 0));
        due.is("no such what", NO_SUCH, () -> b.feud(0, 0, 0, 2));
        due.is("no such what, below", NO_SUCH, () -> b.feud(0, 0, 0, -1));
    }
}
