/** THE BEST DOCKET, PLANKS, SUITS, what is SETTLED, and FEUDS, at their edges. */
final class SearchEdges {
    private static final int NONE = -1;

    /** Docket 0 1: barred on days 0 1. Docket 1 0: barred on days 1 2. For a LOAD of 6, plank 1 is too weak. */
    private static final String EITHER = "book 9;book 5;case 0 2 0;case 0 1 1;";

    private final Due due;

    SearchEdges(Due due) {
        this.due = due;
    }

    private void best(String what, BookBridge b, int row, int over, int length) {
        due.is(what + ": docket", row, () -> b.best(0));
        due.is(what + ": over", over, () -> b.best(1));
        due.is(what + ": length", length, () -> b.best(2));
    }

    @Says("THE BEST DOCKET: of all, that by which most WALKERS GET OVER")
    void mostGetOver() {
        best("one by the first, two by the last", Due.bridge(EITHER + "plain 0 1 6 2 2;plain 0 1 6 0 0;plain 0 1 6 0 0;"),
                Due.row8(1, 0), 2, 3);
        best("two by the first, one by the last", Due.bridge(EITHER + "plain 0 1 6 2 2;plain 0 1 6 0 0;plain 0 1 6 2 2;"),
                Due.row8(0, 1), 2, 3);
        best("five", Due.bridge(EITHER + "plain 0 1 6 0 0;".repeat(5)), Due.row8(1, 0), 5, 3);
        best("none of five", Due.bridge(EITHER + "plain 0 0 6 0 63;".repeat(5)), Due.row8(0, 1), 0, 3);
        best("most ahead of the shortest",
                Due.bridge("book 9;book 5;book 9;case 0 1 1;case 1 2 0;case 0 2 2;case 1 3 0 2;plain 0 2 6 2 2;"),
                Due.row8(0, 1, 2, 3), 1, 6);
        best("each on a day of his own", Due.bridge("book 9;book 9;case 0 2 0;case 0 2 1;plain 0 1 0 0 0;plain 0 0 0 4 4;"
                + "plain 0 1 0 2 2;plain 0 0 0 3 3;plain 0 0 0 63 63;"), Due.row8(0, 1), 4, 4);
        best("whatever the DOCKET", told(Due.row8(1, 0)), Due.row8(0, 1), 2, 3);
    }

    private static BookBridge told(int docket) {
        BookBridge b = Due.bridge(EITHER + "plain 0 1 6 2 2;plain 0 1 6 2 2;");
        b.docket(docket);
        return b;
    }

    @Says(promise = 16, value = "THE BEST DOCKET: as figures (what 0), how many GET OVER (1), how LONG its TERM is (2).")
    void bestAnew() {
        BookBridge b = Due.bridge("book 9;book 5;book 9;book 9;case 0 1 0;plain 0 1 6 0 0;");
        best("a gap of two", b, 0, 0, 1);
        b.image();
        b.lay(Due.row16(0, 2, 1, 3));
        best("laid otherwise", b, 0, 1, 1);
        b.restore();
        best("as in the image", b, 0, 0, 1);
        due.is("another river", 0, () -> Due.river(b, EITHER + "plain 0 1 6 0 0;"));
        best("of two cases", b, Due.row8(1, 0), 1, 3);
        due.is("one more river", 0, () -> Due.river(b, EITHER + "plain 0 1 6 2 2;plain 0 1 6 2 2;"));
        best("of the same cases", b, Due.row8(0, 1), 2, 3);
        due.is("an empty river", 0, () -> Due.river(b, ""));
        best("of none", b, 0, 0, 0);
    }

    @Says("of like ones the one of the shortest TERM")
    void shortestTerm() {
        best("nobody there", Due.bridge("book 5;book 5;book 5;case 0 1 1;case 1 2 0;case 0 2 2;case 1 3 0 2;"),
                Due.row8(0, 2, 3, 1), 0, 5);
        best("one who is over by all", Due.bridge("book 5;book 5;book 5;case 0 1 1;case 1 2 0;case 0 2 2;case 1 3 0 2;plain 0 6 0 0 0;"),
                Due.row8(0, 2, 3, 1), 1, 5);
        best("one who is over by none", Due.bridge("book 5;book 5;book 5;case 0 1 1;case 1 2 0;case 0 2 2;case 1 3 0 2;plain 0 0 6 0 63;"),
                Due.row8(0, 2, 3, 1), 0, 5);
    }

    @Says("the one of the shortest TERM, then the first as a row.")
    void firstAsARow() {
        best("no CASES", Due.bridge("book 5;plain 0 0 5 0 0;plain 0 0 6 0 0;"), 0, 1, 0);
        best("one CASE", Due.bridge("book 5;case 1 9 0;plain 0 0 5 9 9;"), 0, 1, 9);
        best("seven alike", Due.bridge("book 5;" + "case 0 9 0;".repeat(7) + "plain 0 0 5 63 63;"), 06543210, 1, 63);
        best("case 6 must be heard first", Due.bridge("book 9;book 5;" + "case 0 1 0;".repeat(6) + "case 0 1 1;plain 0 1 6 0 0;"),
                Due.row8(6, 0, 1, 2, 3, 4, 5), 1, 7);
        best("case 0 must be heard last", Due.bridge("book 9;book 5;case 0 1 1;" + "case 0 1 0;".repeat(6) + "plain 0 1 6 6 6;"),
                Due.row8(1, 2, 3, 4, 5, 6, 0), 1, 7);
    }

    @Says("of all orders of laying them (with at most 7 BOOKS, else SPENT)")
    void atMostSevenBooks() {
        for (int i = 0; i <= 10; i++) {
            int books = i;
            BookBridge b = Due.bridge("book 5;".repeat(i) + (i == 0 ? "" : "case 0 1 0;"));
            long row = 0x6543210L & (1L << 4 * Math.min(i, 7)) - 1;
            due.is("the row of " + i, i > 7 ? -2 : row, () -> b.lays(0));
            due.is("the longest of " + i, i > 7 ? -2 : Math.min(books, 1), () -> b.lays(1));
            due.is("the wide ones of " + i, i > 7 ? -2 : 0, () -> b.lays(2));
        }
    }

    private void lays(String what, BookBridge b, long row, int longest, int wide) {
        due.is(what + ": row", row, () -> b.lays(0));
        due.is(what + ": longest", longest, () -> b.lays(1));
        due.is(what + ": wide", wide, () -> b.lays(2));
    }

    @Says("that by which the longest GAP for nobody's weight (a plank is THERE, if its BOOK isn't UP) on any DAY of THE TERM is least")
    void longestGapIsLeast() {
        String seven = "book 1;".repeat(7);
        lays("no CASES", Due.bridge(seven), 0x6543210L, 0, 0);
        lays("all are up", Due.bridge(seven + "case 0 1 0 1 2 3 4 5 6;"), 0x6543210L, 7, 1);
        lays("four of seven", Due.bridge(seven + "case 0 1 0 1 2 3;"), Due.row16(0, 4, 1, 5, 2, 6, 3), 1, 0);
        lays("three of seven", Due.bridge(seven + "case 0 1 4 5 6;"), Due.row16(0, 1, 4, 2, 5, 3, 6), 1, 0);
        lays("five of seven", Due.bridge(seven + "case 0 1 0 1 2 3 4;"), Due.row16(0, 1, 5, 2, 3, 6, 4), 2, 2);
        lays("weight is no matter, nor are WALKERS or WEAR",
                Due.bridge(seven + "case 0 1 0;wear 9;plain 0 0 20 0 63;"), 0x6543210L, 1, 0);
        lays("the last DAY of the longest TERM", Due.bridge("book 1;book 1;book 1;" + "case 0 9 0;".repeat(6) + "case 0 9 0 1;"),
                Due.row16(0, 2, 1), 1, 0);
    }

    @Says("of like ones by which such GAPS of 2 or more planks are fewest (all DAYS together)")
    void wideGapsAreFewest() {
        lays("one plank is not wide", Due.bridge("book 1;book 1;case 0 9 0;"), Due.row16(0, 1), 1, 0);
        lays("two are, on each DAY", Due.bridge("book 1;book 1;case 0 9 0 1;"), Due.row16(0, 1), 2, 9);
        lays("on each of the longest TERM", Due.bridge("book 1;".repeat(7) + "case 0 9 0 1 2 3 4 5 6;".repeat(7)),
                0x6543210L, 7, 63);
        lays("two GAPS on one DAY", Due.bridge("book 1;".repeat(7) + "case 0 1 0 1 2 3 4 5;"),
                Due.row16(0, 1, 2, 6, 3, 4, 5), 3, 2);
        lays("fewer GAPS on more DAYS", Due.bridge("book 1;book 1;book 1;case 0 1 0 2;case 0 3 1 2;case 0 2 0 1;"),
                Due.row16(1, 0, 2), 2, 3);
        lays("a wide GAP rather than a wider one", Due.bridge("book 1;book 1;book 1;book 1;case 0 1 0 1 2;case 0 9 0 3;"),
                Due.row16(0, 1, 3, 2), 2, 1);
    }

    @Says("are fewest (all DAYS together), then the first as a row.")
    void firstLayingAsARow() {
        lays("one plank", Due.bridge("book 1;case 0 9 0;"), 0, 1, 0);
        lays("two of three apart", Due.bridge("book 1;book 1;book 1;case 0 1 1 2;"), Due.row16(1, 0, 2), 1, 0);
        lays("seven planks, one up", Due.bridge("book 1;".repeat(7) + "case 0 1 6;"), 0x6543210L, 1, 0);
    }

    @Says(promise = 17, value = "PLANKS: as figures (what 0), the longest GAP (1), how many of 2 or more (2)")
    void laysAnew() {
        BookBridge b = Due.bridge("book 1;book 1;book 1;case 0 1 0;case 0 1 1;case 1 1 2;");
        lays("cases 0 and 2 are heard together", b, Due.row16(0, 1, 2), 1, 0);
        b.image();
        b.docket(Due.row8(1, 0, 2));
        lays("cases 1 and 2 are", b, Due.row16(1, 0, 2), 1, 0);
        b.restore();
        lays("as in the image", b, Due.row16(0, 1, 2), 1, 0);
        b.lay(Due.row16(2, 1, 0));
        lays("however planks are laid now", b, Due.row16(0, 1, 2), 1, 0);
        due.is("all are up", 0, () -> Due.river(b, "book 1;book 1;book 1;case 0 2 0 1 2;"));
        lays("all are up", b, Due.row16(0, 1, 2), 3, 2);
        due.is("two are up", 0, () -> Due.river(b, "book 1;book 1;book 1;case 0 2 0 1;"));
        lays("two are up", b, Due.row16(0, 2, 1), 1, 0);
        due.is("none is up", 0, () -> Due.river(b, "book 1;book 1;book 1;"));
        lays("none is up", b, Due.row16(0, 1, 2), 0, 0);
        due.is("no BOOKS", 0, () -> Due.river(b, ""));
        lays("no BOOKS", b, 0, 0, 0);
    }

    @Says(promise = 17, value = "-2: SPENT.")
    void spent() {
        BookBridge b = Due.bridge("book 1;".repeat(8) + "case 0 9 0 1 2 3 4 5 6 7;");
        for (int i = 0; i < 3; i++) {
            int what = i;
            due.is("eight: " + i, -2, () -> b.lays(what));
        }
        due.is("seven again", 0, () -> Due.river(b, "book 1;".repeat(7) + "case 0 9 0 1 2 3 4 5 6;"));
        lays("seven", b, 0x6543210L, 7, 9);
        due.is("ten", 0, () -> Due.river(b, "book 1;".repeat(10)));
        for (int i = 0; i < 3; i++) {
            int what = i;
            due.is("ten: " + i, -2, () -> b.lays(what));
        }
    }

    @Says("the smallest set of BOOKS, not UP on it, by which, were they UP, too, he wouldn't CROSS; of as small the least as bits")
    void smallestSuit() {
        BookBridge b = Due.bridge("book 9;".repeat(10) + "case 0 1 4;plain 0 0 0 0 0;plain 0 1 0 0 0;plain 0 6 0 0 0;"
                + "farmer 0 6 0 0 0;plain 0 3 0 0 0;flood 2;");
        int[] back = {1, 3, 127, 1023, 15};
        int[] flood = {1, 1, 63, 63, 7};
        due.is("a plank beside one that is up", 8, () -> b.suit(1, 0));
        due.is("six beside one that is up", 0x6f, () -> b.suit(2, 0));
        due.is("nine beside one that is up", 1023 & ~16, () -> b.suit(3, 0));
        due.is("three beside one that is up", 0xe, () -> b.suit(4, 0));
        for (int i = 0; i < 5; i++) {
            int walker = i;
            due.is("nothing is up, walker " + i, back[i], () -> b.suit(walker, 1));
            due.is("a flood, walker " + i, flood[i], () -> b.suit(walker, 2));
        }
        b.lay(0x0123456789L);
        due.is("the least as bits, not by places", 3, () -> b.suit(1, 1));
        b.lay(Due.row16(0, 2, 4, 6, 8, 1, 3, 5, 7, 9));
        due.is("beside one another on the bridge", 5, () -> b.suit(1, 1));
    }

    @Says("none, if there is none (empty, if he doesn't so). SETTLED")
    void noSuitOrAnEmptyOne() {
        BookBridge b = Due.bridge("book 9;".repeat(6) + "plain 0 6 0 0 0;plain 0 5 0 0 0;farmer 0 3 0 0 0;farmer 0 2 0 0 0;plain 0 0 10 0 0;flood 1;");
        int[] suits = {NONE, 63, NONE, 63, 0};
        int[] flood = {63, 31, 7, 3, 0};
        for (int i = 0; i < 5; i++) {
            int walker = i;
            due.is("walker " + i, suits[i], () -> b.suit(walker, 0));
            due.is("walker " + i + " in a flood", flood[i], () -> b.suit(walker, 1));
        }
        due.is("no BOOKS", NONE, () -> Due.bridge("plain 0 0 20 0 0;").suit(0, 0));
        due.is("all are up", 0, () -> Due.bridge("book 9;case 0 1 0;plain 0 0 0 0 0;").suit(0, 0));
        due.is("all are up, and he steps over", NONE, () -> Due.bridge("book 9;case 0 1 0;plain 0 1 0 0 0;").suit(0, 0));
    }

    @Says(promise = 18, value = "A SUIT, as bits; NONE: none.")
    void suitAsBits() {
        BookBridge b = Due.bridge("book 1;".repeat(9) + "book 9;plain 0 6 0 0 0;farmer 0 6 5 0 0;farmer 0 6 0 0 0;");
        due.is("seven", 127, () -> b.suit(0, 0));
        due.is("the last BOOK", 512, () -> b.suit(1, 0));
        due.is("all ten", 1023, () -> b.suit(2, 0));
        due.is("none", NONE, () -> Due.bridge("book 1;plain 0 1 0 0 0;").suit(0, 0));
    }

    @Says("SETTLED: the smallest set of CASES heard on that DAY by which, were they not (their BOOKS not UP on it), he CROSSES; "
            + "of as small the least as bits")
    void smallestSettled() {
        BookBridge b = Due.bridge("book 9;book 9;book 9;book 9;" + "case 0 1 0;".repeat(5) + "case 0 2 0;case 1 9 1;"
                + "plain 0 0 0 0 0;plain 0 1 0 0 0;plain 0 2 0 0 0;");
        due.is("both", 65, () -> b.settled(0, 0));
        due.is("either: the least", 1, () -> b.settled(1, 0));
        due.is("neither", 0, () -> b.settled(2, 0));
        due.is("another DAY's CASES", 66, () -> b.settled(0, 1));
        due.is("the last CASES", 96, () -> b.settled(0, 6));
        due.is("the last CASE alone", 64, () -> b.settled(0, 7));
        due.is("nothing is heard", 0, () -> b.settled(0, 9));
        BookBridge wide = Due.bridge("book 9;book 9;book 9;book 9;case 0 1 0;case 1 1 2 3;plain 0 1 0 0 0;plain 0 1 10 0 0;");
        due.is("the second alone", 2, () -> wide.settled(0, 0));
        due.is("the one whose BOOKS are beside one another", 2, () -> Due.bridge("book 9;book 9;book 9;case 0 1 0;case 1 1 1 2;"
                + "plain 0 1 0 0 0;").settled(0, 0));
        due.is("none", NONE, () -> wide.settled(1, 0));
    }

    @Says("none, if there is none. FEUD")
    void noneToSettle() {
        String walkers = "plain 0 0 10 0 0;plain 0 0 9 0 0;cart 0 0 5 0 0;judge 0 0 0 0 0;judge 1 0 0 0 0;";
        BookBridge b = Due.bridge("book 9;case 0 1 0;" + walkers);
        int[] settled = {NONE, 1, NONE, NONE, 1};
        int[] later = {NONE, 0, NONE, NONE, 0};
        for (int i = 0; i < 5; i++) {
            int walker = i;
            due.is("walker " + i, settled[i], () -> b.settled(walker, 0));
            due.is("no CASE is heard, walker " + i, later[i], () -> b.settled(walker, 1));
            due.is("no CASES, walker " + i, i == 0 || i == 2 ? NONE : 0, () -> Due.bridge("book 9;" + walkers).settled(walker, 0));
        }
        due.is("no BOOKS", 0, () -> Due.bridge("plain 0 0 20 0 0;").settled(0, 0));
    }

    @Says(promise = 19, value = "SETTLED, as bits (0: he CROSSES anyway); NONE: none.")
    void settledOrNot() {
        BookBridge b = Due.bridge("book 9;book 4;case 0 1 0;plain 0 0 5 0 0;plain 0 1 5 0 0;plain 0 2 5 0 0;plain 0 0 4 0 0;");
        int[] settled = {NONE, 1, 0, 1};
        int[] later = {NONE, 0, 0, 0};
        for (int i = 0; i < 4; i++) {
            int walker = i;
            due.is("walker " + i, settled[i], () -> b.settled(walker, 0));
            due.is("later, walker " + i, later[i], () -> b.settled(walker, 1));
        }
    }

    private void feud(String what, BookBridge b, int walker, int other, int rests, int first) {
        due.is(what + ": rests", rests, () -> b.feud(walker, other, 0, 0));
        due.is(what + ": the first", first, () -> b.feud(walker, other, 0, 1));
    }

    @Says("each has at will one BOOK that isn't UP, which he takes up (both may take the same one), or none")
    void oneBookOrNone() {
        feud("no BOOKS", Due.bridge("plain 0 0 0 0 0;plain 0 0 0 0 0;"), 0, 1, 1, 0);
        feud("all are up", Due.bridge("book 9;case 0 1 0;plain 0 0 0 0 0;plain 0 1 0 0 0;"), 0, 1, 1, 0);
        feud("one of two is up", Due.bridge("book 9;book 9;case 0 1 0;plain 0 2 0 0 0;plain 0 2 0 0 0;"), 0, 1, 4, 0);
        feud("both the same", Due.bridge("book 9;plain 0 0 0 0 0;plain 0 0 0 0 0;"), 0, 1, 2, 0);
        feud("ten that matter to nobody", Due.bridge("book 9;".repeat(10) + "plain 0 6 0 0 0;plain 0 6 0 0 0;"), 0, 1, 121, 0);
        String nine = "book 9;".repeat(10) + "case 0 1 0 1 2 3 4 5 6 7 8;plain 0 0 0 0 0;farmer 0 6 0 0 0;";
        feud("the tenth is his", Due.bridge(nine), 0, 1, 2, 160);
        feud("the tenth is the other one's", Due.bridge(nine), 1, 0, 2, 10);
    }

    @Says("each wants to CROSS, and that the other one doesn't, the first more.")
    void firstToCross() {
        feud("he would bar himself, too", Due.bridge("book 9;plain 0 0 0 0 0;plain 0 0 0 0 0;"), 0, 1, 2, 0);
        feud("he bars the other one alone", Due.bridge("book 9;plain 0 1 0 0 0;plain 0 0 0 0 0;"), 0, 1, 2, 16);
        feud("the other one bars him alone", Due.bridge("book 9;plain 0 0 0 0 0;plain 0 1 0 0 0;"), 0, 1, 2, 1);
        feud("nobody is barred by one", Due.bridge("book 9;plain 0 1 0 0 0;plain 0 1 0 0 0;"), 0, 1, 4, 0);
        feud("both are barred anyway", Due.bridge("book 9;plain 0 0 10 0 0;plain 0 0 10 0 0;"), 0, 1, 4, 0);
    }

    @Says("A couple of choices RESTS, if neither would be better off by another choice, the other one's as it is: how many; "
            + "the first, by the first one's choice, then the second one's (none ahead of all BOOKS).")
    void rests() {
        BookBridge restless = Due.bridge("book 9;book 9;plain 0 0 0 0 0;plain 0 1 0 0 0;");
        feud("none rests", restless, 0, 1, 0, NONE);
        feud("none rests, the other way round", restless, 1, 0, 0, NONE);
        BookBridge two = Due.bridge("book 9;book 5;plain 0 1 0 0 0;plain 0 1 6 0 0;");
        feud("the heavy one holds the weak plank, so the other one takes none", two, 0, 1, 2, 2);
        feud("the same, the other way round", two, 1, 0, 2, 32);
    }

    @Says(promise = 20, value = "FEUD: how many couples rest (what 0), the first: 16 by the first one's BOOK and 1 (none: 0), "
            + "and the second one's so (1; NONE: none rests).")
    void feudInADay() {
        BookBridge b = Due.bridge("book 9;plain 0 1 0 0 0;plain 0 1 0 0 0;flood 63;case 0 1 0;");
        int[][] days = {{0, 1, 0}, {1, 4, 0}, {62, 4, 0}, {63, 2, 0}, {64, 4, 0}, {99, 4, 0}};
        for (int[] row : days) {
            due.is("rests on " + row[0], row[1], () -> b.feud(0, 1, row[0], 0));
            due.is("the first on " + row[0], row[2], () -> b.feud(0, 1, row[0], 1));
        }
        BookBridge worn = Due.bridge("book 9;book 9;wear 5;case 0 1 0;plain 0 1 5 0 0;plain 0 1 5 0 0;");
        int[][] wear = {{0, 2, 0}, {1, 5, 0}, {99, 5, 0}};
        for (int[] row : wear) {
            due.is("by a worn BOOK, rests on " + row[0], row[1], () -> worn.feud(0, 1, row[0], 0));
            due.is("by a worn BOOK, the first on " + row[0], row[2], () -> worn.feud(0, 1, row[0], 1));
        }
    }
}
