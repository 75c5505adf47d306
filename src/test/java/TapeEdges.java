/** The tape, and what a river() changes and leaves. */
final class TapeEdges {
    private static final int NONE = -1;
    private static final int BLANKS = 0x20202020;
    private static final String OLD = "book 7;book 8;case 0 3 0;case 0 2 1;plain 0 1 1 0 9;flood 2;fee 3;wear 2;";

    private final Due due;

    TapeEdges(Due due) {
        this.due = due;
    }

    private static int blanks(BookBridge b) {
        return b.feed(BLANKS, BLANKS, BLANKS, BLANKS, BLANKS);
    }

    private static BookBridge withTape(int feeds) {
        BookBridge b = new BookBridge();
        for (int i = 0; i < feeds; i++) {
            blanks(b);
        }
        return b;
    }

    @Says(promise = 2, value = "Twenty bytes come behind the tape, of each number the highest first: how many it has")
    void highestFirst() {
        BookBridge b = new BookBridge();
        due.is("'book', ' 12;', 'fee ', '77; ', blanks", 20, () -> b.feed(0x626f6f6b, 0x2031323b, 0x66656520, 0x37373b20, BLANKS));
        due.is("'wear', ' 5; '", 40, () -> b.feed(0x77656172, 0x20353b20, BLANKS, BLANKS, BLANKS));
        due.is("in this order", 0, () -> b.river(40));
        due.is("of the first number", 12, () -> b.book(0, 0));
        due.is("of the third one", 77, () -> b.count(4));
        due.is("behind the tape", 5, () -> b.count(5));
        for (int i = 0; i < 20; i++) {
            int at = i;
            byte[] bytes = Due.padded(" ".repeat(i) + "x");
            due.is("byte " + i, 20, () -> b.feed(Due.number(bytes, 0), Due.number(bytes, 4), Due.number(bytes, 8),
                    Due.number(bytes, 12), Due.number(bytes, 16)));
            due.is("a fault by byte " + i, 1, () -> b.river(20));
            due.is("at byte " + i, at, b::fault);
        }
        due.is("a number below 0", 20, () -> b.feed(-1, -1, -1, -1, -1));
        due.is("has bytes above 127", 1, () -> b.river(1));
        due.is("and these are no letters", 20, () -> b.feed(0xe2efefeb, 0xa0b1b23b, BLANKS, BLANKS, BLANKS));
        due.is("whatever their lower bits", 1, () -> b.river(20));
    }

    @Says(promise = 2, value = "NONE, and none come, if it would have more than 500.")
    void fullTape() {
        BookBridge b = withTape(24);
        due.is("480", 480, () -> b.count(8));
        due.is("the last twenty", 500, () -> b.feed(BLANKS, BLANKS, BLANKS, 0x20626f6f, 0x6b20353b));
        for (int i = 0; i < 3; i++) {
            due.is("twenty more", NONE, () -> b.feed(0x78787878, 0x78787878, 0x78787878, 0x78787878, 0x78787878));
            due.is("500 all the same", 500, () -> b.count(8));
        }
        due.is("nothing is refused by that", 0, () -> b.count(9) + b.count(10) + b.count(11));
        due.is("none came", 0, () -> b.river(500));
        due.is("the last bytes are the old ones", 5, () -> b.book(0, 0));
        due.is("empty again", 20, () -> blanks(b));
    }

    @Says(promise = 3, value = "The tape's first n bytes (it is empty then)")
    void emptyThen() {
        BookBridge b = new BookBridge();
        Due.feed(b, "book 4;book 5;x");
        due.is("the first 14 of 20", 0, () -> b.river(14));
        due.is("are two books", 2, () -> b.count(0));
        due.is("none is left", 0, () -> b.count(8));
        Due.feed(b, "book 4;book 5;x");
        due.is("the first 7", 0, () -> b.river(7));
        due.is("are one", 1, () -> b.count(0));
        Due.feed(b, "book 4;book 5;x");
        due.is("the first 6", 1, () -> b.river(6));
        due.is("none is left behind a FAULT", 0, () -> b.count(8));
        due.is("the FAULT's place is that of the 6", 6, b::fault);
        BookBridge full = withTape(25);
        due.is("no byte of 500", 0, () -> full.river(0));
        due.is("none is left of 500", 0, () -> full.count(8));
        due.is("a new tape", 20, () -> blanks(full));
        due.is("no byte of none", 0, () -> new BookBridge().river(0));
    }

    @Says(promise = 3, value = "are a RIVER, all anew: 0")
    void allAnew() {
        BookBridge b = Due.bridge(OLD);
        b.docket(Due.row8(1, 0));
        b.lay(Due.row16(1, 0));
        due.is("the same text", 0, () -> Due.river(b, OLD));
        due.is("docket", 0, () -> b.hearing(0, 4));
        due.is("its term", 0, () -> b.hearing(0, 3));
        due.is("laid", 0, () -> b.book(0, 1));
        b.docket(Due.row8(1, 0));
        b.lay(Due.row16(1, 0));
        due.is("nothing told", 0, () -> Due.river(b, ""));
        int[] counts = {0, 0, 0, 0, 1, 0, 0, 0, 0};
        for (int i = 0; i < counts.length; i++) {
            int what = i;
            due.is("count " + i, counts[i], () -> b.count(what));
        }
        for (int i = 0; i < 4; i++) {
            due.is("BOOKS alone " + i, 0, () -> Due.river(b, "book 4;book 4;"));
            due.is("no CASE QUOTES the first " + i, 0, () -> b.book(0, 2));
            due.is("no CASE QUOTES the last " + i, 0, () -> b.book(1, 2));
            String next = i % 2 == 0 ? OLD : "";
            due.is("and another text " + i, 0, () -> Due.river(b, next));
        }
        due.is("no book", Due.NO_SUCH, () -> b.book(0, 0));
        due.is("no case", Due.NO_SUCH, () -> b.hearing(0, 0));
        due.is("no walker", Due.NO_SUCH, () -> b.walker(0, 0));
        due.is("nothing is up", 0, () -> b.up(0, 0));
        due.is("one docket", 1, b::explains);
        due.is("an empty one", 0, () -> b.best(0));
        due.is("no planks", 0, () -> b.lays(0));
    }

    @Says(promise = 3, value = "or the FAULT (all stays, but STATUS).")
    void allStaysButStatus() {
        BookBridge b = Due.bridge(OLD);
        b.docket(Due.row8(1, 0));
        b.lay(Due.row16(1, 0));
        b.see(0, 0, true);
        b.explains();
        b.image();
        due.is("a FAULT behind much", 1, () -> Due.river(b, "book 1;book 2;book 3;case 0 1 0;flood 9;fee 9;wear 9;x"));
        due.is("STATUS 0", 1, () -> b.count(9));
        due.is("another", 2, () -> Due.river(b, "judge 0 0 0 0 0;book 99;"));
        int[] counts = {2, 2, 1, 1, 3, 2, 5, 1, 0, 2, 0, 0};
        for (int i = 0; i < counts.length; i++) {
            int what = i;
            due.is("count " + i, counts[i], () -> b.count(what));
        }
        due.is("strength", 8, () -> b.book(1, 0));
        due.is("quoted by", 2, () -> b.book(1, 2));
        due.is("laid", 0, () -> b.book(1, 1));
        due.is("docket", 0, () -> b.hearing(1, 4));
        due.is("begins", 2, () -> b.hearing(0, 3));
        due.is("days", 3, () -> b.hearing(0, 1));
        due.is("walker", 9, () -> b.walker(0, 5));
        due.is("first", 8, b::first);
        due.yes("image", b.restore());
    }

    @Says(promise = 3, value = "SEEN, what was found, the image are gone.")
    void whatIsGone() {
        BookBridge b = Due.bridge(OLD);
        b.see(0, 0, true);
        b.see(0, 64, true);
        b.docket(-1);
        b.explains();
        b.image();
        due.is("the same text", 0, () -> Due.river(b, OLD));
        due.is("seen", 0, () -> b.count(7));
        due.is("nothing to forget", NONE, b::forget);
        due.is("found", Due.NO_SUCH, b::first);
        due.yes("image", !b.restore());
        due.is("STATUS 1 isn't", 1, () -> b.count(10));
        due.is("STATUS 2 isn't", 1, () -> b.count(11));
    }

    @Says(promise = 3, value = "IllegalArgumentException: the tape has not so many, n below 0 (nothing changes).")
    void notSoMany() {
        int[] feeds = {0, 1, 25};
        for (int many : feeds) {
            BookBridge b = withTape(many);
            int[] wrong = {20 * many + 1, 501, Integer.MAX_VALUE, -1, -500, Integer.MIN_VALUE};
            for (int n : wrong) {
                due.is("n " + n + " of " + 20 * many, Due.ILLEGAL, () -> b.river(n));
            }
            due.is("the tape stays", 20 * many, () -> b.count(8));
            due.is("nothing is refused by that", 0, () -> b.count(9));
            due.is("all of it", 0, () -> b.river(20 * many));
        }
        BookBridge b = Due.bridge(OLD);
        b.see(0, 0, true);
        b.image();
        due.is("a FAULT", 1, () -> Due.river(b, "   x"));
        due.is("n of an empty tape", Due.ILLEGAL, () -> b.river(1));
        due.is("n below 0", Due.ILLEGAL, () -> b.river(-1));
        due.is("its place stays", 3, b::fault);
        due.is("STATUS stays", 1, () -> b.count(9));
        due.is("books stay", 2, () -> b.count(0));
        due.is("seen stays", 1, () -> b.count(7));
        due.yes("the image stays", b.restore());
    }

    @Says(promise = 4, value = "The place of the latest river()'s FAULT; NONE without.")
    void placeOfTheLatest() {
        BookBridge b = new BookBridge();
        due.is("no river()", NONE, b::fault);
        b.river(0);
        due.is("no FAULT", NONE, b::fault);
        due.is("at the first byte", 1, () -> Due.river(b, "x"));
        due.is("is at 0", 0, b::fault);
        due.is("at the end of 500", 1, () -> Due.river(b, " ".repeat(496) + "book"));
        due.is("is at 500", 500, b::fault);
        due.is("in the last byte of 500", 1, () -> Due.river(b, " ".repeat(499) + "x"));
        due.is("is at 499", 499, b::fault);
        b.feed(0, 0, 0, 0, 0);
        due.is("a refused river()", Due.ILLEGAL, () -> b.river(21));
        due.is("isn't one", 499, b::fault);
        due.is("a good one", 0, () -> b.river(0));
        due.is("has none", NONE, b::fault);
    }
}
