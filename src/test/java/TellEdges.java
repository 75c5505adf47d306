/** What a TEXT may tell: numbers at both ends of their bounds and one beyond, the last of each thing and one more. */
final class TellEdges {
    private static final int NONE = -1;
    private static final String[] KINDS = {"plain", "farmer", "cart", "judge"};
    private static final String TEN_BOOKS = "book 5;".repeat(10);

    private final Due due;

    TellEdges(Due due) {
        this.due = due;
    }

    @Says("BOOKS 0, 1 .. (at most 10)")
    void atMostTenBooks() {
        due.fault(0, TEN_BOOKS);
        due.fault(2, TEN_BOOKS + "^book 5;");
        BookBridge b = Due.bridge("book 5;".repeat(9) + "book 7;");
        due.is("ten", 10, () -> b.count(0));
        due.is("the tenth", 7, () -> b.book(9, 0));
        due.is("an eleventh", 2, () -> Due.river(b, "book 6;".repeat(11)));
        due.is("the ten stay", 7, () -> b.book(9, 0));
        due.is("none of them", 0, () -> Due.bridge("").count(0));
        due.is("one of them", 1, () -> Due.bridge("book 1;").count(0));
    }

    @Says("each of a STRENGTH (1 to 20)")
    void strength() {
        due.fault(2, "book ^0;");
        due.fault(0, "book 1;");
        due.fault(0, "book 20;");
        due.fault(2, "book ^21;");
        due.fault(2, "book ^999;");
        BookBridge b = Due.bridge("book 1;book 20;");
        due.is("the least", 1, () -> b.book(0, 0));
        due.is("the most", 20, () -> b.book(1, 0));
    }

    @Says("laid at first in the order of their numbers")
    void laidAtFirst() {
        BookBridge b = Due.bridge(TEN_BOOKS);
        for (int turn = 0; turn < 2; turn++) {
            for (int i = 0; i < 10; i++) {
                int book = i;
                due.is("place of " + i, i, () -> b.book(book, 1));
            }
            due.yes("laid otherwise", b.lay(Due.row16(9, 8, 7, 6, 5, 4, 3, 2, 1, 0)));
            due.is("and told again", 0, () -> Due.river(b, TEN_BOOKS));
        }
    }

    @Says("CASES 0, 1 .. (at most 7)")
    void atMostSevenCases() {
        String seven = "book 5;" + "case 0 1 0;".repeat(6) + "case 1 8 0;";
        due.fault(0, seven);
        due.fault(2, seven + "^case 0 1 0;");
        BookBridge b = Due.bridge(seven);
        due.is("seven", 7, () -> b.count(1));
        due.is("the seventh", 8, () -> b.hearing(6, 1));
        due.is("an eighth", 2, () -> Due.river(b, "book 5;" + "case 0 1 0;".repeat(8)));
        due.is("the seven stay", 8, () -> b.hearing(6, 1));
    }

    @Says("a COURT (0, 1)")
    void court() {
        due.fault(0, "book 5;case 0 1 0;");
        due.fault(0, "book 5;case 1 1 0;");
        due.fault(2, "book 5;case ^2 1 0;");
        BookBridge b = Due.bridge("book 5;case 0 1 0;case 1 1 0;");
        due.is("court 0", 0, () -> b.hearing(0, 0));
        due.is("court 1", 1, () -> b.hearing(1, 0));
    }

    @Says("so many DAYS (1 to 9)")
    void days() {
        due.fault(2, "book 5;case 0 ^0 0;");
        due.fault(0, "book 5;case 0 1 0;");
        due.fault(0, "book 5;case 0 9 0;");
        due.fault(2, "book 5;case 0 ^10 0;");
        BookBridge b = Due.bridge("book 5;case 0 1 0;case 1 9 0;");
        due.is("the fewest", 1, () -> b.hearing(0, 1));
        due.is("the most", 9, () -> b.hearing(1, 1));
    }

    @Says("the BOOKS that it QUOTES (1 or more)")
    void quotesOneOrMore() {
        due.fault(1, "book 5;case 0 1^;");
        due.fault(1, "book 5;case 0 1 ^;");
        due.fault(0, "book 5;case 0 1 0;");
        BookBridge b = Due.bridge(TEN_BOOKS + "case 0 1 9;case 0 1 0 1 2 3 4 5 6 7 8 9;case 0 1 9 8 7 6 5 4 3 2 1 0;");
        due.is("one", 512, () -> b.hearing(0, 2));
        due.is("all", 1023, () -> b.hearing(1, 2));
        due.is("all backwards", 1023, () -> b.hearing(2, 2));
    }

    @Says("WALKERS 0, 1 .. (at most 5) of a KIND: 0 plain, 1 farmer, 2 cart, 3 judge")
    void atMostFiveWalkers() {
        String four = "judge 0 1 2 3 4;cart 0 1 2 3 4;farmer 0 1 2 3 4;plain 0 1 2 3 4;";
        for (int i = 0; i < 4; i++) {
            int kind = i;
            String line = KINDS[i] + " 0 1 2 3 4;";
            due.fault(0, four + line);
            due.fault(2, four + "plain 0 0 0 0 0;^" + line);
            due.fault(2, line.repeat(5) + "^" + line);
            due.is("five of " + line, 5, () -> Due.bridge(line.repeat(5)).count(2));
            due.is("the fifth: " + line, kind, () -> Due.bridge(four + line).walker(4, 0));
            due.is("the others: " + line, 3 - kind, () -> Due.bridge(four).walker(kind, 0));
        }
    }

    /** Each KIND with one of its numbers, the others being as told; what it tells stands behind the KIND. */
    private void bound(int what, int least, int most) {
        for (String kind : KINDS) {
            due.fault(0, walkerWith(kind, what, least, ""));
            due.fault(0, walkerWith(kind, what, most, ""));
            due.fault(2, walkerWith(kind, what, most + 1, "^"));
            due.fault(2, walkerWith(kind, what, 999, "^"));
            due.is(kind + " has " + least, least,
                    () -> Due.bridge(walkerWith(kind, what, least, "")).walker(0, what + 1));
            due.is(kind + " has " + most, most,
                    () -> Due.bridge(walkerWith(kind, what, most, "")).walker(0, what + 1));
        }
    }

    private static String walkerWith(String kind, int what, int number, String mark) {
        int[] numbers = {1, 1, 1, 0, 63};
        numbers[what] = number;
        StringBuilder line = new StringBuilder(kind);
        for (int i = 0; i < 5; i++) {
            line.append(' ').append(i == what ? mark : "").append(numbers[i]);
        }
        return line.append(';').toString();
    }

    @Says("of a SIDE (0, 1)")
    void side() {
        bound(0, 0, 1);
    }

    @Says("with LEGS (0 to 6)")
    void legs() {
        bound(1, 0, 6);
    }

    @Says("a LOAD (0 to 20)")
    void load() {
        bound(2, 0, 20);
    }

    @Says("who would cross on a DAY FROM TO (0 to 63)")
    void fromTo() {
        bound(3, 0, 63);
        bound(4, 0, 63);
        due.fault(2, "plain 0 0 0 ^64 64;");
        due.fault(0, "plain 0 0 0 63 63;");
        due.fault(2, "plain 0 0 0 63 ^64;");
    }

    @Says("FLOODS (at most 5): DAYS (0 to 63)")
    void floods() {
        String five = "flood 0;flood 63;flood 1;flood 62;flood 2;";
        due.fault(0, five);
        due.fault(2, five + "^flood 3;");
        due.is("five", 5, () -> Due.bridge(five).count(3));
        due.is("none", 0, () -> Due.bridge("").count(3));
        due.fault(0, "flood 0;");
        due.fault(0, "flood 63;");
        due.fault(2, "flood ^64;");
        due.fault(2, "flood ^999;");
    }

    @Says("FEE (0 to 99; 1 without)")
    void fee() {
        due.fault(0, "fee 0;");
        due.fault(0, "fee 99;");
        due.fault(2, "fee ^100;");
        due.is("the least", 0, () -> Due.bridge("fee 0;").count(4));
        due.is("the most", 99, () -> Due.bridge("fee 99;").count(4));
        due.is("without", 1, () -> Due.bridge("wear 7;").count(4));
        BookBridge b = Due.bridge("fee 99;");
        due.is("a text without", 0, () -> Due.river(b, ""));
        due.is("without again", 1, () -> b.count(4));
    }

    @Says("WEAR (0 to 9; 0 without)")
    void wear() {
        due.fault(0, "wear 0;");
        due.fault(0, "wear 9;");
        due.fault(2, "wear ^10;");
        due.is("the least", 0, () -> Due.bridge("wear 0;").count(5));
        due.is("the most", 9, () -> Due.bridge("wear 9;").count(5));
        due.is("without", 0, () -> Due.bridge("fee 7;").count(5));
        BookBridge b = Due.bridge("wear 9;");
        due.is("a text without", 0, () -> Due.river(b, ""));
        due.is("without again", 0, () -> b.count(5));
    }

    @Says("A TEXT of at most 500 bytes tells it.")
    void textOfFiveHundred() {
        String full = " ".repeat(493) + "book 9;";
        BookBridge b = new BookBridge();
        due.is("its last byte counts", 0, () -> Due.river(b, full));
        due.is("it is told", 9, () -> b.book(0, 0));
        Due.feed(b, full);
        due.is("one byte less", 1, () -> b.river(499));
        due.is("where it ends", 499, b::fault);
        due.is("no byte", 0, () -> b.river(0));
        due.is("tells nothing", 0, () -> b.count(0));
        Due.feed(b, full);
        due.is("one byte more", Due.ILLEGAL, () -> b.river(501));
        due.is("there is no such text", NONE, () -> b.feed(0, 0, 0, 0, 0));
        String packed = ("book20;".repeat(10) + "case1 9 0 1 2 3 4 5 6 7 8 9;".repeat(7) + "farmer1 6 20 62 63;".repeat(5)
                + "flood59;flood60;flood61;flood62;flood63;fee99;wear9;");
        due.is("all at its most", 0, () -> Due.river(new BookBridge(), packed + " ".repeat(500 - packed.length())));
        due.is("and with zeros up to 500", 0, () -> Due.river(new BookBridge(), padded(packed)));
    }

    /** Zeros ahead of numbers make a text longer, and tell the same. */
    private static String padded(String packed) {
        String text = packed;
        while (text.length() < 500) {
            text = text.replaceFirst("(?<![0-9])(?=[0-9]{1,2}(?![0-9]))", "0");
        }
        return text;
    }

    @Says("words (a .. z, the longest row)")
    void words() {
        due.fault(1, "^bookcase 5;");
        due.fault(1, "^bookbook 5;");
        due.fault(1, "^bookz 5;");
        due.fault(1, "^booka 5;");
        due.fault(1, "^abook 5;");
        due.fault(1, "^boo 5;");
        due.fault(1, "^feee 5;");
        due.fault(1, "book^`5;");
        due.fault(1, "book^{5;");
        due.fault(1, "^Book 5;");
        due.fault(1, "^booK 5;");
        due.fault(0, "book5;case0 1 0;plain0 0 0 0 0;flood0;fee0;wear0;");
        due.fault(0, "farmer0 0 0 0 0;cart0 0 0 0 0;judge0 0 0 0 0;");
        due.fault(1, "book 5;^az;");
        due.fault(1, "book 5;^za 5;");
    }

    @Says("In quotes is what stands there")
    void wordsLetterByLetter() {
        String[] lines = {"book 5;", "case 0 1 0;", "plain 0 0 0 0 0;", "farmer 0 0 0 0 0;", "cart 0 0 0 0 0;",
            "judge 0 0 0 0 0;", "flood 0;", "fee 0;", "wear 0;"};
        for (String line : lines) {
            int end = line.indexOf(' ');
            due.fault(0, "book 5;" + line);
            due.fault(1, "book 5;^x" + line);
            for (int i = 0; i < end; i++) {
                String rest = line.substring(i + 1);
                due.fault(1, "book 5;^" + line.substring(0, i) + "x" + rest);
                due.fault(1, "book 5;" + (i == 0 ? "^X" : "^" + line.substring(0, i) + "X") + rest);
                due.fault(1, "book 5;^" + line.substring(0, i) + rest);
                due.fault(1, "book 5;^" + line.substring(0, i + 1) + "x" + rest);
            }
        }
    }

    @Says("NUMBERS (1 to 3 digits)")
    void numbers() {
        due.fault(0, "book 9;");
        due.fault(0, "book 09;");
        due.fault(0, "book 009;");
        due.fault(2, "book ^0009;");
        due.fault(1, "book 1^/;");
        due.fault(1, "book 1^:;");
        due.fault(1, "book ^/1;");
        due.fault(1, "book ^:1;");
        due.fault(1, "book ^-1;");
        due.fault(1, "book ^+1;");
        due.fault(1, "book 1^.0;");
        due.is("three digits tell one", 9, () -> Due.bridge("book 009;").book(0, 0));
        due.is("all digits", 123, () -> sumOf("book 1;book 2;book 3;book 4;book 5;book 6;book 7;book 8;book 9;book 20;")
                + sumOf("fee 58;"));
        due.is("a hundred is none of a FEE", 2, () -> Due.river(new BookBridge(), "fee 100;"));
        due.is("a zero ahead", 20, () -> Due.bridge("book 020;").book(0, 0));
    }

    /** All STRENGTHS, and the FEE if there is no BOOK. */
    private static int sumOf(String text) {
        BookBridge b = Due.bridge(text);
        int sum = b.count(0) == 0 ? b.count(4) : 0;
        for (int i = 0; i < b.count(0); i++) {
            sum += b.book(i, 0);
        }
        return sum;
    }

    @Says("the sign ;")
    void sign() {
        due.fault(0, "book 5;");
        due.fault(1, "book 5^:");
        due.fault(1, "book 5^<");
        due.fault(1, "book 5^,");
        due.fault(1, "book 5;^;");
        due.fault(0, "book 5;book 5;");
    }

    @Says("and blanks (32, 10) between them, which count for nothing")
    void blanks() {
        due.fault(0, "   \n \n\nbook \n 5\n\n ;  book\n5 ;\n ");
        due.fault(0, "book5;book5;");
        due.fault(0, " ");
        due.fault(0, "\n");
        due.fault(0, " \n".repeat(250));
        int[] others = {0, 1, 8, 9, 11, 12, 13, 31, 33, 127, 128, 133, 138, 160, 255};
        for (int other : others) {
            due.fault(1, "book^" + (char) other + "5;");
            due.fault(1, "^" + (char) other + "book 5;");
            due.fault(1, "book 5;^" + (char) other);
        }
        due.fault(1, "^bo ok 5;");
        due.fault(1, "book 1 ^2;");
        due.fault(1, "book 1\n^2;");
    }

    @Says("RIVER: LINE*")
    void linesAnyNumberOfTimes() {
        due.fault(0, "");
        due.fault(0, "fee 5;");
        due.fault(0, "fee 5;wear 5;flood 5;");
        due.fault(1, "^;");
        due.fault(1, "fee 5; ^;");
        due.fault(1, "fee 5 ^wear 5;");
    }

    @Says("LINE: ('book' STRENGTH | 'case' COURT DAYS BOOK BOOK* | ('plain' | 'farmer' | 'cart' | 'judge') "
            + "SIDE LEGS LOAD FROM TO | 'flood' DAY | 'fee' NUMBER | 'wear' NUMBER) ';', all in capitals being NUMBERS.")
    void linesWithOneTokenWrong() {
        String[] lines = {"book 5 ;", "case 0 1 0 ;", "plain 0 0 0 0 0 ;", "farmer 0 0 0 0 0 ;", "cart 0 0 0 0 0 ;",
            "judge 0 0 0 0 0 ;", "flood 0 ;", "fee 0 ;", "wear 0 ;"};
        for (String line : lines) {
            String[] tokens = line.split(" ");
            due.fault(0, "book 5;" + line);
            for (int i = 0; i < tokens.length; i++) {
                boolean last = i == tokens.length - 1;
                due.fault(1, "book 5;" + with(tokens, i, "x"));
                due.fault(1, "book 5;" + with(tokens, i, "#"));
                due.fault(1, "book 5;" + with(tokens, i, last ? "book" : ";"));
                due.fault(1, "book 5;" + with(tokens, i, last ? "fee" : i == 0 ? "worn" : "wear"));
            }
            due.fault(1, "book 5;" + with(tokens, 0, "5"));
            if (!tokens[0].equals("case")) {
                due.fault(1, "book 5;" + with(tokens, tokens.length - 1, "0"));
            }
        }
    }

    /** The line with one TOKEN put in place of another, and marked. */
    private static String with(String[] tokens, int at, String token) {
        String[] changed = tokens.clone();
        changed[at] = "^" + token;
        return String.join(" ", changed);
    }
}
