/** FAULTS: which one, and at which place. */
final class FaultEdges {
    private static final String TEN_BOOKS = "book 5;".repeat(10);

    private final Due due;

    FaultEdges(Due due) {
        this.due = due;
    }

    @Says("FAULTS, the first along the text")
    void firstAlongTheText() {
        due.fault(2, "book ^21;x");
        due.fault(2, "book ^21;book 0;");
        due.fault(5, "fee 1;^fee x;");
        due.fault(3, "case 0 1 ^0;book 0;");
        due.fault(4, "flood 1;flood ^1 x;");
        due.fault(1, "book 5 ^x;case 2 0 9;");
        due.fault(2, "plain ^2 7 21 64 64;");
        due.fault(2, "plain 1 ^7 21 64 64;");
        due.fault(2, "plain 1 6 ^21 64 64;");
        due.fault(2, "plain 1 6 20 ^64 64;");
        due.fault(2, "book 5;case ^2 10 5;");
        due.fault(2, "book 5;case 1 ^10 5;");
        due.fault(3, "book 5;case 1 9 ^5 5;");
    }

    @Says("at a TOKEN's first byte")
    void atItsFirstByte() {
        due.fault(1, "  \n ^books 5;");
        due.fault(2, "book   ^121;");
        due.fault(2, "book ^00021;");
        due.fault(3, "book 5;case 0 1 ^001;");
        due.fault(4, "book 5;case 0 1 0 ^000;");
        due.fault(4, "flood 12;flood ^012;");
        due.fault(5, "fee 1;   ^fee 1;");
        due.fault(1, "^x");
    }

    @Says("of one TOKEN the least")
    void ofOneTokenTheLeast() {
        due.fault(1, "book 5 ^1234;");
        due.fault(1, "^1234 5;");
        due.fault(1, "plain 0 0 0 0 0 ^1234;");
        due.fault(2, "book 5;case 0 1 ^1000;");
        due.fault(2, "book 5;case 0 1 0 ^0000;");
        due.fault(2, "book 5;case 0 1 0 ^0001;");
        due.fault(2, "flood 3;flood ^0003;");
        due.fault(2, "flood 0;flood 1;flood 2;flood 3;flood 4;^flood 4;");
    }

    @Says("1 a TOKEN that can't stand there, or is none")
    void cannotStandThereOrIsNone() {
        due.fault(1, "^5;");
        due.fault(1, "^;");
        due.fault(1, "^boot 5;");
        due.fault(1, "book ^book;");
        due.fault(1, "book 5 ^book 5;");
        due.fault(1, "book 5 ^5;");
        due.fault(1, "book ^$5;");
        due.fault(1, "book 5;case 0 1 0 ^case 0 1 0;");
        due.fault(1, "book 5;case 0 1 0 ^$;");
        due.fault(1, "book 5;^\u00e9");
        due.fault(1, "^##");
    }

    @Says("(the text's length where it ends too soon)")
    void endsTooSoon() {
        String[] lines = {"book 5 ;", "case 0 1 0 1 ;", "plain 0 0 0 0 0 ;", "farmer 0 0 0 0 0 ;", "cart 0 0 0 0 0 ;",
            "judge 0 0 0 0 0 ;", "flood 0 ;", "fee 0 ;", "wear 0 ;"};
        for (String line : lines) {
            StringBuilder text = new StringBuilder("book 5;book 5;");
            String[] tokens = line.split(" ");
            for (int i = 0; i < tokens.length - 1; i++) {
                text.append(i == 0 ? "" : " ").append(tokens[i]);
                due.fault(1, text + "^");
                due.fault(1, text + "  \n^");
            }
            due.fault(0, text + ";");
        }
        BookBridge b = new BookBridge();
        due.is("at the last byte of 500", 1, () -> Due.river(b, " ".repeat(494) + "book 5"));
        due.is("is at 500", 500, b::fault);
        Due.feed(b, "book 5;book 5;");
        due.is("the tape's length is not the text's", 1, () -> b.river(13));
        due.is("it ends at 13", 13, b::fault);
    }

    @Says("2 one that can, but is too much: a NUMBER of 4 digits or more")
    void fourDigitsOrMore() {
        due.fault(0, "book 005;");
        due.fault(2, "book ^0005;");
        due.fault(2, "book ^00005;");
        due.fault(2, "book ^1000;");
        due.fault(2, "book ^4294967301;");
        due.fault(2, "book ^18446744073709551621;");
        due.fault(2, "book ^" + "0".repeat(490) + "5;");
        due.fault(2, "book 5;case ^0000 1 0;");
        due.fault(2, "book 5;case 0 ^0001 0;");
        due.fault(2, "book 5;case 0 1 ^0000;");
        due.fault(2, "cart ^0000 0 0 0 0;");
        due.fault(2, "cart 0 ^0000 0 0 0;");
        due.fault(2, "cart 0 0 ^0000 0 0;");
        due.fault(2, "cart 0 0 0 ^0000 0;");
        due.fault(2, "cart 0 0 0 0 ^0000;");
        due.fault(2, "flood ^0000;");
        due.fault(2, "fee ^0000;");
        due.fault(2, "wear ^0000;");
        due.fault(2, "book ^0005");
    }

    @Says("or not as told (a TO below its FROM)")
    void toBelowItsFrom() {
        String[] kinds = {"plain", "farmer", "cart", "judge"};
        for (String kind : kinds) {
            due.fault(0, kind + " 0 0 0 0 0;");
            due.fault(0, kind + " 0 0 0 5 5;");
            due.fault(2, kind + " 0 0 0 5 ^4;");
            due.fault(2, kind + " 0 0 0 1 ^0;");
            due.fault(0, kind + " 0 0 0 63 63;");
            due.fault(2, kind + " 0 0 0 63 ^62;");
        }
        due.fault(0, "plain 0 0 0 9 9;plain 0 0 0 5 5;");
    }

    @Says("the first TOKEN of the 11th BOOK, the 8th CASE, the 6th WALKER, the 6th FLOOD")
    void firstTokenOfOneTooMany() {
        String seven = "book 5;" + "case 0 1 0;".repeat(7);
        String five = "judge 0 0 0 0 0;".repeat(5);
        String floods = "flood 9;flood 8;flood 7;flood 6;flood 5;";
        String[][] full = {{TEN_BOOKS, "book", " 5;"}, {seven, "case", " 0 1 0;"}, {five, "plain", " 0 0 0 0 0;"},
            {five, "farmer", " 0 0 0 0 0;"}, {five, "cart", " 0 0 0 0 0;"}, {five, "judge", " 0 0 0 0 0;"},
            {floods, "flood", " 4;"}};
        for (String[] row : full) {
            due.fault(2, row[0] + "^" + row[1] + row[2]);
            due.fault(2, row[0] + "^" + row[1]);
            due.fault(2, row[0] + "^" + row[1] + " x");
            due.fault(2, row[0] + "^" + row[1] + " 9999;");
            due.fault(1, row[0] + "^" + row[1] + "x" + row[2]);
        }
        due.fault(2, floods + " ^flood 9;");
        due.fault(2, seven + "^case 0 1 5;");
    }

    @Says("3 a BOOK that isn't told ahead")
    void notToldAhead() {
        due.fault(0, "book 5;book 5;case 0 1 1;");
        due.fault(3, "book 5;book 5;case 0 1 ^2;");
        due.fault(3, "book 5;case 0 1 ^1;book 5;");
        due.fault(3, "book 5;case 0 1 0 ^1;book 5;");
        due.fault(3, "case 0 1 ^0;");
        due.fault(0, TEN_BOOKS + "case 0 1 9;");
        due.fault(3, TEN_BOOKS + "case 0 1 ^10;");
        due.fault(3, TEN_BOOKS + "case 0 1 ^32;");
        due.fault(3, TEN_BOOKS + "case 0 1 ^999;");
        due.fault(3, TEN_BOOKS + "case 0 1 0 1 2 3 4 5 6 7 8 9 ^10;");
        BookBridge b = Due.bridge(TEN_BOOKS);
        due.is("those of the river ahead don't count", 3, () -> Due.river(b, "book 5;case 0 1 1;"));
    }

    @Says("4 a BOOK that the CASE QUOTES already")
    void quotedAlready() {
        due.fault(4, "book 5;case 0 1 0 ^0;");
        due.fault(4, "book 5;book 5;case 0 1 1 0 ^1;");
        due.fault(4, "book 5;book 5;case 0 1 0 1 ^1;");
        due.fault(4, TEN_BOOKS + "case 0 1 0 1 2 3 4 5 6 7 8 9 ^9;");
        due.fault(4, TEN_BOOKS + "case 0 1 9 8 7 6 5 4 3 2 1 0 ^9;");
        due.fault(0, "book 5;case 0 1 0;case 0 1 0;case 1 1 0;");
    }

    @Says("a DAY of a FLOOD that was told")
    void floodThatWasTold() {
        due.fault(4, "flood 0;flood ^0;");
        due.fault(4, "flood 63;flood ^63;");
        due.fault(4, "flood 0;flood 63;flood 5;flood ^63;");
        due.fault(0, "flood 31;flood 32;flood 63;flood 0;");
        due.fault(4, "flood 1;flood 2;flood 3;flood 4;flood ^4;");
        BookBridge b = Due.bridge("flood 5;");
        due.is("one of the river ahead doesn't count", 0, () -> Due.river(b, "flood 5;"));
    }

    @Says("5 a second 'fee', 'wear'.")
    void secondFeeOrWear() {
        due.fault(5, "fee 1;^fee 1;");
        due.fault(5, "wear 0;^wear 0;");
        due.fault(5, "fee 0;^fee");
        due.fault(5, "wear 9;^wear 99;");
        due.fault(0, "fee 1;wear 1;");
        due.fault(5, "fee 1;wear 1;^fee 1;");
        due.fault(5, "wear 1;fee 1;^wear 1;");
        BookBridge b = Due.bridge("fee 5;wear 5;");
        due.is("those of the river ahead don't count", 0, () -> Due.river(b, "wear 6;fee 6;"));
        due.is("nor do those of a text", 1, () -> Due.river(b, "fee 7;wear 7;x"));
        due.is("with a FAULT", 0, () -> Due.river(b, "fee 8;wear 8;"));
        due.is("the fee", 8, () -> b.count(4));
        due.is("the wear", 8, () -> b.count(5));
    }
}
