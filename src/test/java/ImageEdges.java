/** STATUS, and what AN IMAGE keeps and doesn't. */
final class ImageEdges {
    private static final int NONE = -1;

    /** As many BOOKS and CASES as there may be. */
    private static final String MOST = "book 9;".repeat(10) + "case 0 1 0;".repeat(6) + "case 0 1 9;plain 0 0 0 0 63;";

    private final Due due;

    ImageEdges(Due due) {
        this.due = due;
    }

    private void status(String what, BookBridge b, int texts, int rows, int seen) {
        due.is(what + ": STATUS 0", texts, () -> b.count(9));
        due.is(what + ": STATUS 1", rows, () -> b.count(10));
        due.is(what + ": STATUS 2", seen, () -> b.count(11));
    }

    @Says("STATUS: how many calls were refused: 0 TEXTS with a FAULT, 1 DOCKETS, layings, 2 SEEN.")
    void refusedCalls() {
        BookBridge b = new BookBridge();
        status("a new object", b, 0, 0, 0);
        Due.river(b, MOST);
        status("a good text", b, 0, 0, 0);
        Due.river(b, "x");
        status("a FAULT", b, 1, 0, 0);
        b.docket(0);
        status("no docket", b, 1, 1, 0);
        b.lay(0);
        status("no laying", b, 1, 2, 0);
        b.see(0, 64, true);
        status("seen too late", b, 1, 2, 1);
        b.docket(06543210);
        b.lay(0x9876543210L);
        b.see(0, 0, true);
        b.forget();
        b.forget();
        b.restore();
        status("these are good, or not counted", b, 1, 2, 1);
        for (int i = 0; i < 26; i++) {
            b.feed(0, 0, 0, 0, 0);
        }
        due.is("no text", Due.ILLEGAL, () -> b.river(501));
        due.is("no terms", Due.ILLEGAL, () -> b.terms(0, 0, 41));
        due.is("no walker", Due.NO_SUCH, () -> b.see(1, 0, true));
        due.is("no day", Due.NO_SUCH, () -> b.see(0, 100, true));
        due.is("nothing explained", Due.NO_SUCH, b::first);
        status("nor are these", b, 1, 2, 1);
        due.is("an empty text", 0, () -> b.river(0));
        status("another river", b, 1, 2, 1);
        BookBridge often = new BookBridge();
        for (int i = 0; i < 250; i++) {
            often.docket(1);
            often.lay(1);
        }
        status("as many as an object's calls", often, 0, 500, 0);
    }

    @Says("AN IMAGE keeps the DOCKET, how planks are laid, SEEN, STATUS.")
    void whatItKeeps() {
        BookBridge b = Due.bridge(MOST);
        b.docket(00123456);
        b.lay(0x0123456789L);
        for (int i = 0; i < 11; i++) {
            b.see(0, i, i > 6);
        }
        Due.river(b, "x");
        b.lay(-1);
        b.image();
        b.docket(06543210);
        b.lay(0x9876543210L);
        b.forget();
        b.see(0, 0, true);
        b.docket(-1);
        b.see(0, 0, true);
        Due.river(b, "   y");
        Due.feed(b, "book 5;");
        due.yes("restore", b.restore());
        for (int i = 0; i < 7; i++) {
            int hearing = i;
            due.is("docket " + i, 6 - i, () -> b.hearing(hearing, 4));
            due.is("begins " + i, 6 - i, () -> b.hearing(hearing, 3));
        }
        for (int i = 0; i < 10; i++) {
            int book = i;
            due.is("laid " + i, 9 - i, () -> b.book(book, 1));
        }
        due.is("planks", 0x1ff, () -> b.planks(0, 1));
        due.is("seen", 10, () -> b.count(7));
        due.is("what was seen", 5040, b::explains);
        status("kept", b, 1, 1, 1);
        due.is("the tape isn't in it", 20, () -> b.count(8));
        due.is("nor the FAULT's place", 3, b::fault);
    }

    @Says("AN IMAGE keeps the DOCKET, how planks are laid, SEEN")
    void whoAndWhenAndHow() {
        String text = "book 9;book 5;case 0 2 0;case 0 1 1;plain 0 1 6 0 0;plain 0 2 6 0 0;";
        int[][] rows = {{0, 0, 1, 1}, {0, 0, 0, 1}, {1, 0, 1, 2}, {1, 0, 0, 0}, {0, 2, 1, 1}, {0, 3, 1, 2}, {0, 1, 0, 2}};
        for (int[] kept : rows) {
            for (int[] later : rows) {
                BookBridge b = Due.bridge(text);
                for (int i = 0; i < 10; i++) {
                    b.see(kept[0], kept[1], kept[2] == 1);
                }
                b.image();
                while (b.forget() > 0) {
                    due.yes("some are left", b.count(7) > 0);
                }
                for (int i = 0; i < 10; i++) {
                    b.see(later[0], later[1], later[2] == 1);
                }
                due.is("what was seen later", later[3], b::explains);
                b.restore();
                due.is("as in the image", kept[3], b::explains);
                for (int i = 9; i > 0; i--) {
                    b.forget();
                    due.is("its first " + i, kept[3], b::explains);
                }
            }
        }
    }

    @Says(promise = 27, value = "AN IMAGE is kept, in place of another one.")
    void inPlaceOfAnother() {
        BookBridge b = Due.bridge(MOST);
        b.image();
        b.lay(0x0123456789L);
        b.docket(00123456);
        b.see(0, 9, true);
        b.lay(0);
        b.image();
        b.lay(0x9876543210L);
        b.docket(06543210);
        b.forget();
        due.yes("restore", b.restore());
        due.is("laid as in the second", 9, () -> b.book(0, 1));
        due.is("docket of the second", 6, () -> b.hearing(0, 4));
        due.is("seen of the second", 1, () -> b.count(7));
        due.is("STATUS of the second", 1, () -> b.count(10));
        BookBridge none = new BookBridge();
        none.image();
        none.docket(1);
        due.yes("of a new object", none.restore());
        due.is("which had refused nothing", 0, () -> none.count(10));
    }

    @Says(promise = 28, value = "It is as the IMAGE again: true.")
    void againAndAgain() {
        BookBridge b = Due.bridge(MOST);
        b.see(0, 5, false);
        b.image();
        b.explains();
        for (int i = 0; i < 3; i++) {
            b.docket(00123456);
            b.lay(0x0123456789L);
            b.forget();
            b.see(0, 63, false);
            b.see(0, 62, false);
            b.lay(5);
            due.yes("restore " + i, b.restore());
            due.is("docket " + i, 0, () -> b.hearing(0, 4));
            due.is("laid " + i, 0, () -> b.book(0, 1));
            due.is("seen " + i, 1, () -> b.count(7));
            due.is("what was seen " + i, 5040, b::explains);
            due.is("STATUS " + i, 0, () -> b.count(10));
            due.is("the term " + i, 512, () -> b.up(6, 0));
            due.is("the planks " + i, 511, () -> b.planks(0, 6));
        }
        due.yes("twice at once", b.restore() && b.restore());
    }

    @Says(promise = 28, value = "False: there is none.")
    void noImage() {
        BookBridge b = new BookBridge();
        due.yes("a new object", !b.restore());
        b.image();
        due.yes("an image", b.restore());
        due.is("a FAULT", 1, () -> Due.river(b, "x"));
        due.yes("the image stays", b.restore());
        due.is("a river", 0, () -> Due.river(b, MOST));
        due.yes("it is gone", !b.restore());
        b.docket(00123456);
        b.lay(0x0123456789L);
        b.see(0, 0, true);
        b.lay(0);
        due.yes("still none", !b.restore());
        due.is("the docket is as it was", 6, () -> b.hearing(0, 4));
        due.is("the planks are", 9, () -> b.book(0, 1));
        due.is("so is what was seen", 1, () -> b.count(7));
        due.is("and STATUS", 1, () -> b.count(10));
        due.is("nothing to forget but this", NONE, () -> b.forget() + b.forget());
        b.image();
        due.yes("another image", b.restore());
    }
}
