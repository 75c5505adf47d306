/** THE TERM, DOCKETS and layings at their edges. */
final class TermEdges {
    private static final String SEVEN_CASES = "book 5;" + "case 0 1 0;".repeat(7);
    private static final String TEN_BOOKS = "book 5;".repeat(10);

    private final Due due;

    TermEdges(Due due) {
        this.due = due;
    }

    private void begins(String what, BookBridge b, int... days) {
        for (int i = 0; i < days.length; i++) {
            int hearing = i;
            due.is(what + ": case " + i + " begins", days[i], () -> b.hearing(hearing, 3));
        }
    }

    @Says("A DOCKET is a row of all CASES (at first in the order of their numbers).")
    void docketAtFirst() {
        BookBridge b = Due.bridge(SEVEN_CASES);
        for (int turn = 0; turn < 2; turn++) {
            for (int i = 0; i < 7; i++) {
                int hearing = i;
                due.is("place of " + i, i, () -> b.hearing(hearing, 4));
            }
            begins("in that order", b, 0, 1, 2, 3, 4, 5, 6);
            due.yes("another one", b.docket(Due.row8(6, 5, 4, 3, 2, 1, 0)));
            begins("in the other order", b, 6, 5, 4, 3, 2, 1, 0);
            due.is("told again", 0, () -> Due.river(b, SEVEN_CASES));
        }
    }

    @Says("in the morning CASES that are done put their BOOKS back; then")
    void backInTheMorning() {
        BookBridge b = Due.bridge("book 5;book 5;case 0 9 0;case 1 1 0;case 0 1 0 1;");
        begins("on the very DAY on which the book is back", b, 0, 9, 10);
        due.is("day 8", 1, () -> b.up(8, 1));
        due.is("day 9", 2, () -> b.up(9, 1));
        due.is("day 10", 4, () -> b.up(10, 1));
        due.is("its books", 3, () -> b.up(10, 0));
    }

    @Says("in the order of the DOCKET, each CASE that hasn't begun BEGINS, if its COURT hears none, and none of its BOOKS is up")
    void whoBegins() {
        begins("one court", Due.bridge("book 5;book 5;case 0 1 0;case 0 1 1;"), 0, 1);
        begins("two courts", Due.bridge("book 5;book 5;case 0 1 0;case 1 1 1;"), 0, 0);
        begins("two courts, one book", Due.bridge("book 5;book 5;case 0 1 0 1;case 1 1 1;"), 0, 1);
        begins("a later one goes ahead of one that waits",
                Due.bridge("book 5;book 5;case 0 2 0;case 1 1 0 1;case 1 3 1;"), 0, 3, 0);
        BookBridge b = Due.bridge("book 5;book 5;book 5;case 0 1 0;case 1 1 0 1;case 0 2 1;case 1 1 2;");
        begins("by the docket", b, 0, 1, 2, 0);
        b.docket(Due.row8(3, 2, 1, 0));
        begins("by the other docket", b, 3, 2, 0, 0);
        BookBridge ends = Due.bridge(TEN_BOOKS + "case 0 2 0 9;case 1 1 9;case 1 1 0;case 1 3 1 2 3 4 5 6 7 8;");
        begins("the last book, too", ends, 0, 3, 4, 0);
    }

    @Says("it is heard that DAY and as many in all as it has DAYS; its BOOKS are UP on all of these.")
    void heardSoManyDays() {
        BookBridge b = Due.bridge("book 5;book 5;case 0 1 0;case 1 9 1;");
        due.is("day 0", 3, () -> b.up(0, 1));
        due.is("books of day 0", 3, () -> b.up(0, 0));
        due.is("day 1", 2, () -> b.up(1, 1));
        due.is("day 8", 2, () -> b.up(8, 1));
        due.is("books of day 8", 2, () -> b.up(8, 0));
        due.is("day 9", 0, () -> b.up(9, 1));
        due.is("books of day 9", 0, () -> b.up(9, 0));
    }

    @Says("THE TERM is LONG as many DAYS as there are until the last CASE is done (0 without CASES).")
    void howLong() {
        due.is("without CASES", 0, () -> Due.bridge("book 5;plain 0 0 0 0 63;").count(6));
        due.is("of a new object", 0, () -> new BookBridge().count(6));
        due.is("the shortest", 1, () -> Due.bridge("book 5;case 0 1 0;").count(6));
        due.is("two at once", 9, () -> Due.bridge("book 5;book 5;case 0 9 0;case 1 1 1;").count(6));
        due.is("the last to begin is not the last to be done", 9,
                () -> Due.bridge("book 5;book 5;case 0 9 0;case 1 1 1;case 1 1 1;").count(6));
        due.is("the longest", 63, () -> Due.bridge("book 5;" + "case 1 9 0;".repeat(7)).count(6));
        due.is("the longest of two courts", 63,
                () -> Due.bridge("book 5;" + "case 1 9 0;case 0 9 0;".repeat(3) + "case 1 9 0;").count(6));
    }

    @Says("Behind it (and without CASES) nothing is UP.")
    void behindIt() {
        BookBridge b = Due.bridge("book 5;" + "case 1 9 0;".repeat(7));
        due.is("its last DAY", 1, () -> b.up(62, 0));
        due.is("the last CASE", 64, () -> b.up(62, 1));
        due.is("the DAY behind", 0, () -> b.up(63, 0));
        due.is("no CASE", 0, () -> b.up(63, 1));
        int[] later = {64, 65, 95, 96, 98, 99};
        for (int day : later) {
            due.is("day " + day, 0, () -> b.up(day, 0));
            due.is("cases of day " + day, 0, () -> b.up(day, 1));
        }
    }

    private void refuses(BookBridge b, int... rows) {
        int before = b.count(10);
        for (int row : rows) {
            due.yes("docket " + Integer.toOctalString(row) + " is refused", !b.docket(row));
        }
        due.is("each is counted", before + rows.length, () -> b.count(10));
        due.is("nowhere else", 0, () -> b.count(9) + b.count(11));
    }

    @Says(promise = 9, value = "The DOCKET is told (CASES as figures of a number to the base 8, the first one lowest; each once): true.")
    void docketIsTold() {
        BookBridge b = Due.bridge(SEVEN_CASES);
        due.yes("the first row", b.docket(06543210));
        begins("the first row", b, 0, 1, 2, 3, 4, 5, 6);
        due.yes("the last row", b.docket(00123456));
        begins("the last row", b, 6, 5, 4, 3, 2, 1, 0);
        due.yes("another", b.docket(01654320));
        begins("another", b, 0, 6, 1, 2, 3, 4, 5);
        due.is("the last place", 6, () -> b.hearing(1, 4));
        due.is("none is refused", 0, () -> b.count(10));
        due.yes("one CASE", Due.bridge("book 5;case 0 1 0;").docket(0));
        due.yes("two CASES", Due.bridge("book 5;case 0 1 0;case 0 1 0;").docket(1));
        due.yes("no CASES", new BookBridge().docket(0));
    }

    @Says(promise = 9, value = "False (STATUS 1): it isn't one.")
    void noDocket() {
        BookBridge b = Due.bridge(SEVEN_CASES);
        b.docket(00123456);
        refuses(b, 0, 1, -1, Integer.MIN_VALUE, Integer.MAX_VALUE, 0543210, 06543217, 07543210, 06543211, 05543210, 06543200,
                06543210 | 1 << 21, 06543210 | 1 << 24, 06543210 | 1 << 30, 06543210 | Integer.MIN_VALUE, 016543210);
        begins("it stays", b, 6, 5, 4, 3, 2, 1, 0);
        refuses(Due.bridge("book 5;case 0 1 0;"), 1, 7, 8, 64, -1, 1 << 30, Integer.MIN_VALUE);
        refuses(Due.bridge("book 5;case 0 1 0;case 0 1 0;"), 0, 011, 2, 020, 012, 0210, 0110, 01010);
        refuses(new BookBridge(), 1, 7, 8, -1, Integer.MIN_VALUE, Integer.MAX_VALUE);
    }

    private void refusesLaying(BookBridge b, long... rows) {
        int before = b.count(10);
        for (long row : rows) {
            due.yes("laying " + Long.toHexString(row) + " is refused", !b.lay(row));
        }
        due.is("each is counted", before + rows.length, () -> b.count(10));
        due.is("nowhere else", 0, () -> b.count(9) + b.count(11));
    }

    private void places(String what, BookBridge b, int... places) {
        for (int i = 0; i < places.length; i++) {
            int book = i;
            due.is(what + ": place of " + i, places[i], () -> b.book(book, 1));
        }
    }

    @Says(promise = 10, value = "Planks are laid anew (BOOKS as figures to the base 16, the first lowest; each once): true.")
    void laidAnew() {
        BookBridge b = Due.bridge(TEN_BOOKS);
        due.yes("the last row", b.lay(0x0123456789L));
        places("the last row", b, 9, 8, 7, 6, 5, 4, 3, 2, 1, 0);
        due.yes("the first row", b.lay(0x9876543210L));
        places("the first row", b, 0, 1, 2, 3, 4, 5, 6, 7, 8, 9);
        due.yes("another", b.lay(0x1987654320L));
        places("another", b, 0, 9, 1, 2, 3, 4, 5, 6, 7, 8);
        due.is("none is refused", 0, () -> b.count(10));
        due.yes("one BOOK", Due.bridge("book 5;").lay(0));
        due.yes("two BOOKS", Due.bridge("book 5;book 5;").lay(1));
        due.yes("no BOOKS", new BookBridge().lay(0));
    }

    @Says(promise = 10, value = "False (STATUS 1): it isn't so.")
    void notLaid() {
        BookBridge b = Due.bridge(TEN_BOOKS);
        b.lay(0x0123456789L);
        refusesLaying(b, 0L, 1L, -1L, Long.MIN_VALUE, Long.MAX_VALUE, 0x876543210L, 0x987654321aL, 0xa876543210L, 0xf876543210L,
                0x9876543211L, 0x8876543210L, 0x76543210L, 0x9876543210L | 1L << 40, 0x9876543210L | 1L << 44,
                0x9876543210L | 1L << 62, 0x9876543210L | Long.MIN_VALUE, 0x19876543210L);
        places("they stay", b, 9, 8, 7, 6, 5, 4, 3, 2, 1, 0);
        refusesLaying(Due.bridge("book 5;"), 1L, 15L, 16L, -1L, 1L << 32, 1L << 62, Long.MIN_VALUE);
        refusesLaying(Due.bridge("book 5;book 5;"), 0L, 0x11L, 2L, 0x20L, 0x12L, 0x210L, 0x110L, 0x10L | 1L << 32);
        refusesLaying(new BookBridge(), 1L, 16L, -1L, 1L << 32, Long.MIN_VALUE, Long.MAX_VALUE);
    }

    @Says(promise = 11, value = "BOOKS that are UP on a DAY (what 0), CASES that are heard (1), as bits.")
    void upAsBits() {
        BookBridge b = Due.bridge(TEN_BOOKS + "case 0 1 0;".repeat(5) + "case 1 9 9;case 0 4 1 2 3 4 5 6 7 8 9;");
        due.is("the first and the last BOOK", 513, () -> b.up(0, 0));
        due.is("their CASES", 33, () -> b.up(0, 1));
        due.is("the last BOOK alone", 512, () -> b.up(8, 0));
        due.is("all BOOKS but one", 1022, () -> b.up(9, 0));
        due.is("the last CASE", 64, () -> b.up(9, 1));
        due.is("its last day", 64, () -> b.up(12, 1));
        due.is("none", 0, () -> b.up(13, 0));
    }
}
