/** One method a promise, by its number, with answers worked out by hand (draws by a seed: by a separate script). */
public final class PromiseTest {
    private static final int NONE = -1;
    private static final long NO_SUCH = Due.NO_SUCH;
    private static final long ILLEGAL = Due.ILLEGAL;

    /** Docket 0 1: barred on days 0 1. Docket 1 0: barred on days 1 2. For either walker, plank 1 is too weak. */
    private static final String ONE_COURT = "book 9;book 5;case 0 2 0;case 0 1 1;plain 0 1 6 0 0;plain 0 1 6 2 2;";

    /** A case a day, which takes 2, 3, 4, 5 planks up on days 0 to 3; floods on days 1 and 4. */
    private static final String WIDER = "book 10;book 10;book 10;book 10;book 10;book 10;fee 5;flood 1;flood 4;"
            + "case 0 1 0 1;case 0 1 1 2 3;case 0 1 0 1 2 3;case 0 1 0 1 2 3 4;"
            + "plain 0 2 5 0 3;farmer 0 1 0 1 3;cart 0 2 5 2 9;cart 0 6 6 4 9;judge 0 0 0 0 63;";

    /** Dockets whose terms differ in length: 0 1 2 3 takes 6 days, 0 2 3 1 is the first that takes 5. */
    private static final String LENGTHS = "book 5;book 5;book 5;case 0 1 1;case 1 2 0;case 0 2 2;case 1 3 0 2;";

    private final Due due = new Due();

    public static void main(String[] args) {
        PromiseTest test = new PromiseTest();
        test.firstTen();
        test.nextTen();
        test.lastEight();
        test.due.end();
    }

    private void firstTen() {
        newObject1();
        feed2();
        river3();
        riverFaults3();
        riverFullLists3();
        manyRivers3();
        fault4();
        count5();
        book6();
        hearing7();
        walker8();
        docket9();
        lay10();
    }

    private void nextTen() {
        up11();
        planks12();
        wear12();
        judge12();
        crosses13();
        bar14();
        over15();
        best16();
        lays17();
        suit18();
        settled19();
        feud20();
    }

    private void lastEight() {
        see21();
        forget22();
        explains23();
        heard24();
        first25();
        terms26();
        image27();
        restore28();
    }

    private void newObject1() {
        BookBridge b = new BookBridge();
        int[] counts = {0, 0, 0, 0, 1, 0, 0, 0, 0, 0, 0, 0};
        for (int i = 0; i < counts.length; i++) {
            int what = i;
            due.is("1 count " + i, counts[i], () -> b.count(what));
        }
        due.is("1 NONE", -1, () -> BookBridge.NONE);
        due.is("1 fault", NONE, b::fault);
        due.is("1 book", NO_SUCH, () -> b.book(0, 0));
        due.is("1 hearing", NO_SUCH, () -> b.hearing(0, 0));
        due.is("1 walker", NO_SUCH, () -> b.walker(0, 0));
        due.is("1 up", 0, () -> b.up(0, 0));
        due.is("1 first", NO_SUCH, b::first);
        due.is("1 best", 0, () -> b.best(0));
        due.is("1 lays", 0, () -> b.lays(0));
        due.yes("1 restore", !b.restore());
    }

    private void feed2() {
        BookBridge b = new BookBridge();
        due.is("2 feed", 20, () -> b.feed(0x626f6f6b, 0x2031323b, 0x66656520, 0x37373b20, 0x20202020));
        due.is("2 river", 0, () -> b.river(20));
        due.is("2 highest byte first", 12, () -> b.book(0, 0));
        due.is("2 fee", 77, () -> b.count(4));
        for (int i = 1; i <= 25; i++) {
            due.is("2 feed " + i, 20L * i, () -> b.feed(0x20202020, 0x20202020, 0x20202020, 0x20202020, 0x20202020));
        }
        due.is("2 feed behind 500", NONE, () -> b.feed(-1, -1, -1, -1, -1));
        due.is("2 none came", 500, () -> b.count(8));
        due.is("2 a text of 500", 0, () -> b.river(500));
        due.is("2 no books", 0, () -> b.count(0));
        due.is("2 bytes above 127", 20, () -> b.feed(0x62ff6f6b, 0, 0, 0, 0));
        due.is("2 is no token", 1, () -> b.river(20));
        due.is("2 at the first token", 0, b::fault);
    }

    private void river3() {
        BookBridge b = Due.bridge("book 7;case 0 3 0;plain 0 0 1 0 9;flood 2;fee 3;wear 2;");
        due.is("3 too many", ILLEGAL, () -> b.river(1));
        Due.feed(b, "book 21;");
        due.is("3 below 0", ILLEGAL, () -> b.river(-1));
        due.is("3 above", ILLEGAL, () -> b.river(21));
        due.is("3 tape stays", 20, () -> b.count(8));
        due.yes("3 a bad docket", !b.docket(8));
        b.see(0, 64, true);
        b.see(0, 1, false);
        b.image();
        due.is("3 explains", 1, b::explains);
        due.is("3 fault", 2, () -> b.river(20));
        due.is("3 the tape is empty", 0, () -> b.count(8));
        due.is("3 place", 5, b::fault);
        due.is("3 status of texts", 1, () -> b.count(9));
        due.is("3 books stay", 7, () -> b.book(0, 0));
        due.is("3 cases stay", 3, () -> b.count(6));
        due.is("3 floods stay", 1, () -> b.count(3));
        due.is("3 fee stays", 3, () -> b.count(4));
        due.is("3 wear stays", 2, () -> b.count(5));
        due.is("3 seen stays", 1, () -> b.count(7));
        due.is("3 what was found stays", 0, b::first);
        due.is("3 illegal", ILLEGAL, () -> b.river(1));
        due.is("3 nothing changes", 5, b::fault);
        due.yes("3 the image stays", b.restore());
        due.is("3 status as in the image", 0, () -> b.count(9));
        Due.feed(b, "book 4;book 5;     x");
        due.is("3 the first bytes alone", 0, () -> b.river(14));
        due.is("3 the rest is gone", 0, () -> b.count(8));
        due.is("3 anew", 2, () -> b.count(0));
        due.is("3 no cases", 0, () -> b.count(1));
        due.is("3 no walkers", 0, () -> b.count(2));
        due.is("3 no floods", 0, () -> b.count(3));
        due.is("3 fee without", 1, () -> b.count(4));
        due.is("3 wear without", 0, () -> b.count(5));
        due.is("3 seen gone", 0, () -> b.count(7));
        due.is("3 found gone", NO_SUCH, b::first);
        due.yes("3 image gone", !b.restore());
        due.is("3 no fault", NONE, b::fault);
        due.is("3 status goes on", 1, () -> b.count(10));
        due.is("3 status goes on, too", 1, () -> b.count(11));
        due.yes("3 laid anew", b.lay(Due.row16(1, 0)));
        due.is("3 an empty text", 0, () -> b.river(0));
        due.is("3 nothing told", 0, () -> b.count(0));
    }

    private void fault(String text, int code, int place) {
        BookBridge b = new BookBridge();
        due.is("3 river of '" + text + "'", code, () -> Due.river(b, text));
        due.is("4 fault of '" + text + "'", place, b::fault);
        due.is("5 status of '" + text + "'", code == 0 ? 0 : 1, () -> b.count(9));
    }

    private void riverFaults3() {
        fault("", 0, NONE);
        fault(" \n ", 0, NONE);
        fault("x", 1, 0);
        fault(";", 1, 0);
        fault("5;", 1, 0);
        fault("12345;", 1, 0);
        fault("book", 1, 4);
        fault("book  ", 1, 6);
        fault("book 5", 1, 6);
        fault("book 5 \n", 1, 8);
        fault("book ;", 1, 5);
        fault("book x;", 1, 5);
        fault("book 5 6;", 1, 7);
        fault("book 5 1234;", 1, 7);
        fault("book 5;;", 1, 7);
        fault("book 5;x", 1, 7);
        fault("book 5book 6;", 1, 6);
        fault("bookk 5;", 1, 0);
        fault("boo 5;", 1, 0);
        fault("abook 5;", 1, 0);
        fault("bookz 5;", 1, 0);
        fault("Book 5;", 1, 0);
        fault("book\t5;", 1, 4);
        fault("book\r5;", 1, 4);
        fault("book -5;", 1, 5);
        fault("book 5;\u00e9", 1, 7);
        fault("book 5;\0", 1, 7);
        fault("book5;\n book\n5 ;", 0, NONE);
        fault("book 0;", 2, 5);
        fault("book 1;book 20;", 0, NONE);
        fault("book 21;", 2, 5);
        fault("book 020;", 0, NONE);
        fault("book 0020;", 2, 5);
        fault("book 99999999999999;", 2, 5);
        fault("book 5;case 2 1 0;", 2, 12);
        fault("book 5;case 0 0 0;", 2, 14);
        fault("book 5;case 0 10 0;", 2, 14);
        fault("book 5;case 1 9 0;", 0, NONE);
        fault("book 5;case 0 1;", 1, 15);
        fault("book 5;case 0 1 0", 1, 17);
        fault("book 5;case 0 1 0 x;", 1, 18);
        fault("case 0 1 0;book 5;", 3, 9);
        fault("book 5;case 0 1 1;", 3, 16);
        fault("book 5;case 0 1 999;", 3, 16);
        fault("book 5;case 0 1 1000;", 2, 16);
        fault("book 5;case 0 1 0 00;", 4, 18);
        fault("book 5;book 5;case 0 1 1 0 1;", 4, 27);
        fault("plain 2 0 0 0 0;", 2, 6);
        fault("plain 0 7 0 0 0;", 2, 8);
        fault("farmer 0 6 21 0 0;", 2, 11);
        fault("cart 0 6 20 64 64;", 2, 12);
        fault("judge 1 6 20 63 62;", 2, 16);
        fault("judge 1 6 20 5 64;", 2, 15);
        fault("judge 1 6 20 63 63;", 0, NONE);
        fault("plain 0 0 0 0;", 1, 13);
        fault("plain 0 0 0 0 0 0;", 1, 16);
        fault("plains 0 0 0 0 0;", 1, 0);
        fault("flood 63;flood 0;", 0, NONE);
        fault("flood 64;", 2, 6);
        fault("flood 3;flood 003;", 4, 14);
        fault("flood;", 1, 5);
        fault("fee 0;wear 0;", 0, NONE);
        fault("fee 99;wear 9;", 0, NONE);
        fault("fee 100;", 2, 4);
        fault("wear 10;", 2, 5);
        fault("fee 1;fee", 5, 6);
        fault("wear 0;wear 0;", 5, 7);
        fault("fee 1;wear 1;fee 1000;", 5, 13);
    }

    private void riverFullLists3() {
        String books = "book 5;".repeat(10);
        fault(books, 0, NONE);
        fault(books + "book x", 2, 70);
        String cases = "book 5;" + "case 0 1 0;".repeat(7);
        fault(cases, 0, NONE);
        fault(cases + "case", 2, 84);
        String walkers = "plain 0 0 0 0 0;farmer 0 0 0 0 0;cart 0 0 0 0 0;judge 0 0 0 0 0;plain 0 0 0 0 0;";
        fault(walkers, 0, NONE);
        fault(walkers + "judge 0 0 0 0 0;", 2, walkers.length());
        String floods = "flood 1;flood 2;flood 3;flood 4;flood 5;";
        fault(floods, 0, NONE);
        fault(floods + "flood 5;", 2, 40);
        BookBridge all = Due.bridge(books + "case 0 9 0 1 2 3 4 5 6 7 8 9;");
        due.is("3 all ten quoted", 1023, () -> all.hearing(0, 2));
        fault(books + "case 0 9 0 1 2 3 4 5 6 7 8 9 0;", 4, 99);
        fault(books + "case 0 9 0 1 2 3 4 5 6 7 8 9 10;", 3, 99);
    }

    /** One river after another on one object: nothing of an earlier one is left in a later one. */
    private void manyRivers3() {
        BookBridge b = new BookBridge();
        for (int turn = 0; turn < 4; turn++) {
            int i = turn;
            due.is("3 full " + i, 0, () -> Due.river(b, ONE_COURT + "fee 3;wear 2;flood 5;"));
            due.is("3 its two dockets " + i, 2, b::explains);
            due.is("3 its best " + i, 1, () -> b.best(1));
            due.is("3 its wide gaps " + i, 0, () -> b.lays(2));
            due.is("3 thin " + i, 0, () -> Due.river(b, i == 2 ? "book 4;fee 8;wear 7;" : "book 4;"));
            due.is("3 fee " + i, i == 2 ? 8 : 1, () -> b.count(4));
            due.is("3 wear " + i, i == 2 ? 7 : 0, () -> b.count(5));
            due.is("3 cases " + i, 0, () -> b.count(1));
            due.is("3 walkers " + i, 0, () -> b.count(2));
            due.is("3 floods " + i, 0, () -> b.count(3));
            due.is("3 quoted by none " + i, 0, () -> b.book(0, 2));
            due.is("3 the empty docket " + i, 1, b::explains);
            due.is("3 nobody is over " + i, 0, () -> b.best(1));
            if (i == 1) {
                due.is("3 three cases", 0, () -> Due.river(b, "book 9;case 0 1 0;case 0 2 0;case 0 3 0;"));
                due.is("3 six dockets", 6, b::explains);
            }
        }
    }

    private void fault4() {
        BookBridge b = Due.bridge("book 5;");
        due.is("4 none", NONE, b::fault);
        due.is("4 a fault", 1, () -> Due.river(b, "book 5;boo 5;"));
        due.is("4 its place", 7, b::fault);
        due.is("4 another", 4, () -> Due.river(b, "flood 1;flood 1;"));
        due.is("4 the latest", 14, b::fault);
        due.is("4 no more", 0, () -> Due.river(b, "flood 1;"));
        due.is("4 none again", NONE, b::fault);
    }

    private void count5() {
        BookBridge b = Due.bridge(WIDER);
        int[] counts = {6, 4, 5, 2, 5, 0, 4, 0, 0, 0, 0, 0};
        for (int i = 0; i < counts.length; i++) {
            int what = i;
            due.is("5 count " + i, counts[i], () -> b.count(what));
        }
        due.is("5 below", NO_SUCH, () -> b.count(-1));
        due.is("5 above", NO_SUCH, () -> b.count(12));
        b.feed(0, 0, 0, 0, 0);
        due.is("5 tape", 20, () -> b.count(8));
        BookBridge lengths = Due.bridge(LENGTHS);
        due.is("5 long", 6, () -> lengths.count(6));
        lengths.docket(Due.row8(0, 2, 3, 1));
        due.is("5 less long", 5, () -> lengths.count(6));
        BookBridge longest = Due.bridge("book 5;" + "case 0 9 0;".repeat(7));
        due.is("5 the longest", 63, () -> longest.count(6));
        due.is("5 wear", 9, () -> Due.bridge("wear 9;").count(5));
    }

    private void book6() {
        BookBridge b = Due.bridge(LENGTHS);
        b.lay(Due.row16(2, 0, 1));
        int[][] due3 = {{5, 1, 10}, {5, 2, 1}, {5, 0, 12}};
        for (int i = 0; i < 3; i++) {
            for (int j = 0; j < 3; j++) {
                int book = i;
                int what = j;
                due.is("6 book " + i + " " + j, due3[i][j], () -> b.book(book, what));
            }
        }
        due.is("6 book below", NO_SUCH, () -> b.book(-1, 0));
        due.is("6 book above", NO_SUCH, () -> b.book(3, 0));
        due.is("6 what below", NO_SUCH, () -> b.book(0, -1));
        due.is("6 what above", NO_SUCH, () -> b.book(0, 3));
        BookBridge worn = Due.bridge("book 7;case 0 1 0;wear 3;");
        due.is("6 strength as told", 7, () -> worn.book(0, 0));
    }

    private void hearing7() {
        BookBridge b = Due.bridge(LENGTHS);
        int[][] due5 = {{0, 1, 2, 0, 0}, {1, 2, 1, 0, 1}, {0, 2, 4, 1, 2}, {1, 3, 5, 3, 3}};
        for (int i = 0; i < 4; i++) {
            for (int j = 0; j < 5; j++) {
                int hearing = i;
                int what = j;
                due.is("7 hearing " + i + " " + j, due5[i][j], () -> b.hearing(hearing, what));
            }
        }
        b.docket(Due.row8(0, 2, 3, 1));
        int[] begins = {0, 3, 3, 0};
        int[] places = {0, 3, 1, 2};
        for (int i = 0; i < 4; i++) {
            int hearing = i;
            due.is("7 begins " + i, begins[i], () -> b.hearing(hearing, 3));
            due.is("7 place " + i, places[i], () -> b.hearing(hearing, 4));
        }
        due.is("7 hearing below", NO_SUCH, () -> b.hearing(-1, 0));
        due.is("7 hearing above", NO_SUCH, () -> b.hearing(4, 0));
        due.is("7 what below", NO_SUCH, () -> b.hearing(0, -1));
        due.is("7 what above", NO_SUCH, () -> b.hearing(0, 5));
    }

    private void walker8() {
        BookBridge b = Due.bridge("cart 1 6 20 3 63;judge 0 1 2 4 5;plain 1 0 0 0 0;farmer 0 2 3 6 7;");
        int[][] due6 = {{2, 1, 6, 20, 3, 63}, {3, 0, 1, 2, 4, 5}, {0, 1, 0, 0, 0, 0}, {1, 0, 2, 3, 6, 7}};
        for (int i = 0; i < 4; i++) {
            for (int j = 0; j < 6; j++) {
                int walker = i;
                int what = j;
                due.is("8 walker " + i + " " + j, due6[i][j], () -> b.walker(walker, what));
            }
        }
        due.is("8 walker below", NO_SUCH, () -> b.walker(-1, 0));
        due.is("8 walker above", NO_SUCH, () -> b.walker(4, 0));
        due.is("8 what below", NO_SUCH, () -> b.walker(0, -1));
        due.is("8 what above", NO_SUCH, () -> b.walker(0, 6));
    }

    private void docket9() {
        BookBridge b = Due.bridge(LENGTHS);
        due.yes("9 docket", b.docket(Due.row8(3, 1, 0, 2)));
        due.is("9 place", 0, () -> b.hearing(3, 4));
        due.is("9 begins", 0, () -> b.hearing(3, 3));
        due.is("9 waits", 3, () -> b.hearing(2, 3));
        int[] wrong = {0, -1, Due.row8(0, 1, 2), Due.row8(0, 1, 2, 2), Due.row8(0, 1, 2, 4), Due.row8(0, 1, 2, 3, 1),
            Due.row8(0, 1, 2, 3) | Integer.MIN_VALUE, Integer.MAX_VALUE};
        for (int row : wrong) {
            due.yes("9 no docket " + row, !b.docket(row));
        }
        due.is("9 status", wrong.length, () -> b.count(10));
        due.is("9 as it was", 0, () -> b.hearing(3, 4));
        BookBridge seven = Due.bridge("book 5;" + "case 0 1 0;".repeat(7));
        due.yes("9 seven", seven.docket(Due.row8(6, 5, 4, 3, 2, 1, 0)));
        due.is("9 the last is heard first", 0, () -> seven.hearing(6, 3));
    }

    private void lay10() {
        BookBridge b = Due.bridge("book 1;book 2;book 3;plain 0 0 2 0 0;");
        due.yes("10 lay", b.lay(Due.row16(2, 0, 1)));
        due.is("10 place", 0, () -> b.book(2, 1));
        due.is("10 planks by places", 5, () -> b.planks(0, 0));
        long[] wrong = {0, -1, Due.row16(0, 1, 1), Due.row16(0, 1, 3), Due.row16(0, 1, 2, 1), Due.row16(0, 1),
            Due.row16(0, 1, 2) | 1L << 32, Due.row16(0, 1, 2) | Long.MIN_VALUE, Long.MAX_VALUE};
        for (long row : wrong) {
            due.yes("10 no laying " + row, !b.lay(row));
        }
        due.is("10 status", wrong.length, () -> b.count(10));
        due.is("10 as it was", 0, () -> b.book(2, 1));
        BookBridge ten = Due.bridge("book 5;".repeat(10));
        due.yes("10 ten", ten.lay(Due.row16(9, 8, 7, 6, 5, 4, 3, 2, 1, 0)));
        due.is("10 the last is first", 0, () -> ten.book(9, 1));
        due.yes("10 an eleventh", !ten.lay(Due.row16(9, 8, 7, 6, 5, 4, 3, 2, 1, 0, 1)));
    }

    private void up11() {
        BookBridge b = Due.bridge(LENGTHS);
        int[] books = {3, 5, 4, 5, 5, 5, 0};
        int[] cases = {3, 6, 4, 8, 8, 8, 0};
        for (int i = 0; i < 7; i++) {
            int day = i;
            due.is("11 books on " + i, books[i], () -> b.up(day, 0));
            due.is("11 cases on " + i, cases[i], () -> b.up(day, 1));
        }
        due.is("11 the last day", 0, () -> b.up(99, 0));
        due.is("11 day below", NO_SUCH, () -> b.up(-1, 0));
        due.is("11 day above", NO_SUCH, () -> b.up(100, 0));
        due.is("11 what below", NO_SUCH, () -> b.up(0, -1));
        due.is("11 what above", NO_SUCH, () -> b.up(0, 2));
    }

    private void planks12() {
        BookBridge b = Due.bridge(WIDER);
        due.is("12 two are up", 60, () -> b.planks(0, 0));
        due.is("12 three are up", 49, () -> b.planks(0, 1));
        due.is("12 five are up", 32, () -> b.planks(0, 3));
        due.is("12 none is up", 63, () -> b.planks(0, 4));
        due.is("12 a cart that planks just bear", 63, () -> b.planks(2, 4));
        due.is("12 a cart that none bears", 0, () -> b.planks(3, 4));
        due.is("12 a judge of side 0", 32, () -> b.planks(4, 99));
        b.lay(Due.row16(5, 4, 3, 2, 1, 0));
        due.is("12 the other way round", 15, () -> b.planks(0, 0));
        due.is("12 walker below", NO_SUCH, () -> b.planks(-1, 0));
        due.is("12 walker above", NO_SUCH, () -> b.planks(5, 0));
        due.is("12 day below", NO_SUCH, () -> b.planks(0, -1));
        due.is("12 day above", NO_SUCH, () -> b.planks(0, 100));
    }

    private void wear12() {
        BookBridge b = Due.bridge("book 10;book 10;wear 3;case 0 2 0;case 1 1 0;"
                + "plain 0 0 4 0 9;plain 0 0 5 0 9;plain 0 0 10 0 9;");
        due.is("12 worn twice, bears", 3, () -> b.planks(0, 3));
        due.is("12 worn twice, does not", 2, () -> b.planks(1, 3));
        due.is("12 not worn", 2, () -> b.planks(2, 3));
        due.is("12 up", 2, () -> b.planks(0, 2));
        BookBridge thin = Due.bridge("book 1;wear 1;case 0 1 0;case 0 1 0;plain 0 0 0 0 9;");
        due.is("12 less than nothing bears not even no load", 0, () -> thin.planks(0, 2));
    }

    private void judge12() {
        BookBridge b = Due.bridge("book 9;book 9;book 9;case 0 1 0;case 1 1 1;judge 0 3 0 0 9;judge 1 3 0 0 9;"
                + "plain 0 3 0 0 9;judge 1 3 10 0 9;");
        due.is("12 a judge of court 0", 6, () -> b.planks(0, 9));
        due.is("12 a judge of court 1", 5, () -> b.planks(1, 9));
        due.is("12 no judge", 7, () -> b.planks(2, 9));
        due.is("12 a heavy judge", 0, () -> b.planks(3, 9));
    }

    private void crosses13() {
        BookBridge b = Due.bridge(WIDER);
        int[][] due5 = {
            {0, NONE, NONE, NONE, 0, 0}, {10, NONE, 20, NONE, 0, 0}, {0, NONE, NONE, NONE, 0, 0},
            {0, NONE, 0, 0, NONE, 0}, {NONE, NONE, NONE, NONE, NONE, NONE}};
        for (int i = 0; i < 5; i++) {
            for (int j = 0; j < 6; j++) {
                int walker = i;
                int day = j;
                due.is("13 crosses " + i + " " + j, due5[i][j], () -> b.crosses(walker, day));
            }
        }
        due.is("13 walker above", NO_SUCH, () -> b.crosses(5, 0));
        due.is("13 day above", NO_SUCH, () -> b.crosses(0, 100));
        BookBridge two = Due.bridge("book 9;book 9;book 9;book 9;book 9;case 0 1 0 3 4;farmer 0 1 0 0 0;fee 7;");
        due.is("13 pays for one gap alone", 14, () -> two.crosses(0, 0));
        BookBridge free = Due.bridge("book 9;book 9;case 0 1 0 1;farmer 0 1 0 0 0;fee 0;");
        due.is("13 wades for nothing", 0, () -> free.crosses(0, 0));
        BookBridge legless = Due.bridge("book 9;case 0 1 0;plain 0 0 0 0 0;farmer 0 0 0 0 0;flood 0;");
        due.is("13 no fewer legs than 0, a gap", NONE, () -> legless.crosses(1, 0));
        due.is("13 no fewer legs than 0, no gap", 0, () -> legless.crosses(0, 1));
        BookBridge last = Due.bridge("book 9;book 1;plain 0 1 5 62 63;flood 63;");
        due.is("13 the day ahead of the last flood", 0, () -> last.crosses(0, 62));
        due.is("13 the last flood", NONE, () -> last.crosses(0, 63));
        due.is("13 no flood behind it", 0, () -> last.crosses(0, 64));
        due.is("13 nor on the last day", 0, () -> last.crosses(0, 99));
        BookBridge no = Due.bridge("plain 0 0 20 0 0;flood 0;");
        due.is("13 no planks, no gaps", 0, () -> no.crosses(0, 0));
    }

    private void bar14() {
        BookBridge b = Due.bridge(WIDER);
        int[][] due5 = {
            {NONE, 19, 4, 5, NONE, NONE}, {NONE, 19, NONE, 5, NONE, NONE}, {NONE, 19, 4, 5, NONE, NONE},
            {NONE, 6, NONE, NONE, 6, NONE}, {5, 5, 5, 5, 5, 5}};
        for (int i = 0; i < 5; i++) {
            for (int j = 0; j < 6; j++) {
                int walker = i;
                int day = j;
                due.is("14 bar " + i + " " + j, due5[i][j], () -> b.bar(walker, day));
            }
        }
        BookBridge later = Due.bridge("book 1;book 9;book 1;book 1;book 9;book 1;book 1;book 1;plain 0 1 5 0 0;");
        due.is("14 the first that bars", 34, () -> later.bar(0, 0));
        due.is("14 walker below", NO_SUCH, () -> b.bar(-1, 0));
        due.is("14 day below", NO_SUCH, () -> b.bar(0, -1));
    }

    private void over15() {
        BookBridge b = Due.bridge(WIDER);
        int[] days = {0, 2, 4, 5, NONE};
        for (int i = 0; i < 5; i++) {
            int walker = i;
            due.is("15 over " + i, days[i], () -> b.over(walker));
        }
        due.is("15 walker below", NO_SUCH, () -> b.over(-1));
        due.is("15 walker above", NO_SUCH, () -> b.over(5));
        BookBridge late = Due.bridge("book 9;case 0 9 0;plain 0 0 0 3 8;plain 0 0 0 3 9;");
        due.is("15 a day too late", NONE, () -> late.over(0));
        due.is("15 on his last day", 9, () -> late.over(1));
    }

    private void best16() {
        BookBridge b = Due.bridge(ONE_COURT);
        due.is("16 of like ones the first", Due.row8(0, 1), () -> b.best(0));
        due.is("16 one of two", 1, () -> b.best(1));
        due.is("16 long", 3, () -> b.best(2));
        BookBridge more = Due.bridge(ONE_COURT + "plain 0 1 6 0 0;");
        due.is("16 most get over", Due.row8(1, 0), () -> more.best(0));
        due.is("16 two of three", 2, () -> more.best(1));
        more.lay(Due.row16(1, 0));
        due.is("16 laid otherwise", Due.row8(1, 0), () -> more.best(0));
        BookBridge lengths = Due.bridge(LENGTHS);
        due.is("16 the shortest term", Due.row8(0, 2, 3, 1), () -> lengths.best(0));
        due.is("16 nobody", 0, () -> lengths.best(1));
        due.is("16 its length", 5, () -> lengths.best(2));
        lengths.docket(Due.row8(3, 2, 1, 0));
        due.is("16 whatever the docket", Due.row8(0, 2, 3, 1), () -> lengths.best(0));
        due.is("16 the docket stays", 0, () -> lengths.hearing(3, 4));
        due.is("16 what below", NO_SUCH, () -> b.best(-1));
        due.is("16 what above", NO_SUCH, () -> b.best(3));
        BookBridge laid = Due.bridge("book 9;book 5;book 9;book 9;case 0 1 0;plain 0 1 6 0 0;");
        due.is("16 a gap of two", 0, () -> laid.best(1));
        laid.lay(Due.row16(0, 2, 1, 3));
        due.is("16 two gaps of one", 1, () -> laid.best(1));
        laid.image();
        laid.lay(Due.row16(0, 1, 2, 3));
        due.is("16 a gap of two again", 0, () -> laid.best(1));
        laid.restore();
        due.is("16 as in the image", 1, () -> laid.best(1));
    }

    private void lays17() {
        BookBridge b = Due.bridge("book 1;book 1;book 1;case 0 2 0 1;");
        due.is("17 apart", Due.row16(0, 2, 1), () -> b.lays(0));
        due.is("17 longest", 1, () -> b.lays(1));
        due.is("17 wide", 0, () -> b.lays(2));
        due.is("17 the planks stay", 1, () -> b.book(1, 1));
        BookBridge all = Due.bridge("book 1;book 1;book 1;case 0 2 0 1 2;case 0 3 1 2;");
        due.is("17 fewest wide ones", Due.row16(1, 0, 2), () -> all.lays(0));
        due.is("17 all are up", 3, () -> all.lays(1));
        due.is("17 on two days", 2, () -> all.lays(2));
        BookBridge pairs = Due.bridge("book 1;book 1;book 1;case 0 2 0 2;case 0 3 1 2;case 0 1 0 1;");
        due.is("17 two pairs touch", 3, () -> pairs.lays(2));
        due.is("17 the third is held apart", Due.row16(1, 0, 2), () -> pairs.lays(0));
        dockets17();
        due.is("17 what below", NO_SUCH, () -> b.lays(-1));
        due.is("17 what above", NO_SUCH, () -> b.lays(3));
        BookBridge seven = Due.bridge("book 1;".repeat(7) + "case 1 1 0 1 2 3;");
        due.is("17 seven books", Due.row16(0, 4, 1, 5, 2, 6, 3), () -> seven.lays(0));
        BookBridge eight = Due.bridge("book 1;".repeat(8));
        for (int i = 0; i < 3; i++) {
            int what = i;
            due.is("17 spent " + i, -2, () -> eight.lays(what));
        }
        due.is("17 what ahead of spent", NO_SUCH, () -> eight.lays(3));
    }

    /** Case 2 is heard together with whichever of the others comes first. */
    private void dockets17() {
        BookBridge b = Due.bridge("book 1;book 1;book 1;case 0 1 0;case 0 1 1;case 1 1 2;");
        due.is("17 books 0 and 2 apart", Due.row16(0, 1, 2), () -> b.lays(0));
        b.image();
        b.docket(Due.row8(1, 0, 2));
        due.is("17 books 1 and 2 apart", Due.row16(1, 0, 2), () -> b.lays(0));
        b.restore();
        due.is("17 as in the image", Due.row16(0, 1, 2), () -> b.lays(0));
        due.is("17 another river", 0, () -> Due.river(b, "book 1;book 1;case 0 1 0 1;"));
        due.is("17 its longest gap", 2, () -> b.lays(1));
        due.is("17 its order", Due.row16(0, 1), () -> b.lays(0));
    }

    private void suit18() {
        BookBridge b = Due.bridge("book 9;book 9;book 9;book 9;case 0 1 1;plain 0 1 0 0 9;plain 0 3 0 0 9;"
                + "plain 0 4 0 0 9;farmer 0 0 0 0 9;flood 5;");
        due.is("18 one beside", 1, () -> b.suit(0, 0));
        due.is("18 two", 3, () -> b.suit(0, 2));
        due.is("18 all but the one that is up", 13, () -> b.suit(1, 0));
        due.is("18 all", 15, () -> b.suit(1, 2));
        due.is("18 none", NONE, () -> b.suit(2, 2));
        due.is("18 a flood", 15, () -> b.suit(2, 5));
        due.is("18 a farmer", 15, () -> b.suit(3, 2));
        due.is("18 a farmer in a flood", 1, () -> b.suit(3, 5));
        b.lay(Due.row16(1, 3, 0, 2));
        due.is("18 the least that touch", 5, () -> b.suit(0, 2));
        due.is("18 beside, laid otherwise", 8, () -> b.suit(0, 0));
        BookBridge barred = Due.bridge("book 9;case 0 1 0;plain 0 0 0 0 0;");
        due.is("18 he is barred so", 0, () -> barred.suit(0, 0));
        BookBridge weak = Due.bridge("book 9;book 3;book 9;plain 0 1 5 0 0;");
        due.is("18 beside a weak one", 1, () -> weak.suit(0, 0));
        due.is("18 walker above", NO_SUCH, () -> b.suit(4, 0));
        due.is("18 day above", NO_SUCH, () -> b.suit(0, 100));
    }

    private void settled19() {
        BookBridge b = Due.bridge("book 9;book 9;book 9;case 0 1 0;case 1 1 1;plain 0 0 0 0 9;plain 0 1 0 0 9;"
                + "plain 0 2 0 0 9;plain 0 2 10 0 9;");
        due.is("19 both", 3, () -> b.settled(0, 0));
        due.is("19 either: the least", 1, () -> b.settled(1, 0));
        due.is("19 anyway", 0, () -> b.settled(2, 0));
        due.is("19 none frees him", NONE, () -> b.settled(3, 0));
        due.is("19 no case is heard", 0, () -> b.settled(0, 1));
        due.is("19 no case is heard, and he is barred", NONE, () -> b.settled(3, 1));
        BookBridge second = Due.bridge("book 9;book 9;book 9;book 9;case 0 1 0;case 1 1 2 3;plain 0 1 0 0 9;");
        due.is("19 the second alone", 2, () -> second.settled(0, 0));
        BookBridge worn = Due.bridge("book 9;wear 2;case 0 1 0;plain 0 0 8 0 9;plain 0 0 7 0 9;");
        due.is("19 its book is worn all the same", NONE, () -> worn.settled(0, 0));
        due.is("19 but bears another one", 1, () -> worn.settled(1, 0));
        due.is("19 walker above", NO_SUCH, () -> b.settled(4, 0));
        due.is("19 day above", NO_SUCH, () -> b.settled(0, 100));
    }

    private void feud20() {
        BookBridge even = Due.bridge("book 9;plain 0 0 0 0 0;plain 0 0 0 0 0;");
        due.is("20 none, or both the same", 2, () -> even.feud(0, 1, 0, 0));
        due.is("20 none first", 0, () -> even.feud(0, 1, 0, 1));
        BookBridge strong = Due.bridge("book 9;plain 0 0 0 0 0;plain 0 6 0 0 0;case 0 1 0;");
        due.is("20 the strong one takes it", 2, () -> strong.feud(0, 1, 1, 0));
        due.is("20 the weak one none", 1, () -> strong.feud(0, 1, 1, 1));
        due.is("20 the other way round", 16, () -> strong.feud(1, 0, 1, 1));
        due.is("20 none to take", 1, () -> strong.feud(0, 1, 0, 0));
        due.is("20 so none", 0, () -> strong.feud(0, 1, 0, 1));
        BookBridge restless = Due.bridge("book 9;book 9;plain 0 0 0 0 0;plain 0 1 0 0 0;");
        due.is("20 nothing rests", 0, () -> restless.feud(0, 1, 0, 0));
        due.is("20 no first", NONE, () -> restless.feud(0, 1, 0, 1));
        BookBridge flood = Due.bridge("book 9;plain 0 1 0 0 0;plain 0 1 0 0 0;flood 0;");
        due.is("20 in a flood", 2, () -> flood.feud(0, 1, 0, 0));
        due.is("20 on a dry day nothing matters", 4, () -> flood.feud(0, 1, 1, 0));
        BookBridge worn = Due.bridge("book 9;book 9;wear 5;case 0 1 0;plain 0 1 5 0 0;plain 0 1 5 0 0;");
        due.is("20 a worn book is no plank", 5, () -> worn.feud(0, 1, 1, 0));
        BookBridge no = Due.bridge("plain 0 0 0 0 0;plain 0 0 0 0 0;");
        due.is("20 no books", 1, () -> no.feud(0, 1, 0, 0));
        due.is("20 both are one", ILLEGAL, () -> even.feud(1, 1, 0, 0));
        due.is("20 no such walker ahead of it", NO_SUCH, () -> even.feud(2, 2, 0, 0));
        due.is("20 no such day ahead of it", NO_SUCH, () -> even.feud(1, 1, 100, 0));
        due.is("20 no such what ahead of it", NO_SUCH, () -> even.feud(1, 1, 0, 2));
        due.is("20 walker", NO_SUCH, () -> even.feud(-1, 1, 0, 0));
        due.is("20 other", NO_SUCH, () -> even.feud(0, 2, 0, 0));
        due.is("20 day", NO_SUCH, () -> even.feud(0, 1, -1, 0));
        due.is("20 what", NO_SUCH, () -> even.feud(0, 1, 0, -1));
    }

    private void see21() {
        BookBridge b = Due.bridge(ONE_COURT);
        due.is("21 above 63", NONE, () -> b.see(0, 64, true));
        due.is("21 the last of all", NONE, () -> b.see(0, 99, true));
        due.is("21 status", 2, () -> b.count(11));
        for (int i = 1; i <= 10; i++) {
            due.is("21 see " + i, i, () -> b.see(1, 63, true));
        }
        due.is("21 an eleventh", NONE, () -> b.see(1, 0, true));
        due.is("21 status again", 3, () -> b.count(11));
        due.is("21 ten", 10, () -> b.count(7));
        due.is("21 walker below", NO_SUCH, () -> b.see(-1, 0, true));
        due.is("21 walker above", NO_SUCH, () -> b.see(2, 0, true));
        due.is("21 day below", NO_SUCH, () -> b.see(0, -1, true));
        due.is("21 day above", NO_SUCH, () -> b.see(0, 100, true));
        due.is("21 these are not refused", 3, () -> b.count(11));
    }

    private void forget22() {
        BookBridge b = Due.bridge(ONE_COURT);
        due.is("22 none", NONE, b::forget);
        b.see(0, 0, true);
        b.see(0, 2, true);
        due.is("22 none explains both", 0, b::explains);
        due.is("22 the last one", 1, b::forget);
        due.is("22 docket 1 0 is left", Due.row8(1, 0), () -> b.explains() * b.first());
        due.is("22 the first one", 0, b::forget);
        due.is("22 no more", NONE, b::forget);
        due.is("22 count", 0, () -> b.count(7));
        due.is("22 not refused", 0, () -> b.count(11));
    }

    private void explains23() {
        BookBridge b = Due.bridge(ONE_COURT);
        due.is("23 all", 2, b::explains);
        b.see(0, 1, false);
        due.is("23 both", 2, b::explains);
        b.see(0, 0, true);
        due.is("23 one", 1, b::explains);
        b.see(1, 2, false);
        due.is("23 still one", 1, b::explains);
        b.see(1, 0, false);
        due.is("23 none", 0, b::explains);
        due.is("23 the docket stays", 0, () -> b.hearing(0, 4));
        BookBridge many = Due.bridge("book 9;" + "case 0 1 0;".repeat(7) + "plain 0 0 0 0 0;");
        due.is("23 all of seven cases", 5040, many::explains);
        many.see(0, 6, false);
        due.is("23 all the same", 5040, many::explains);
        BookBridge laid = Due.bridge("book 9;book 5;book 9;book 9;case 0 1 0;plain 0 1 6 0 0;");
        laid.see(0, 0, true);
        due.is("23 a gap of two", 0, laid::explains);
        laid.lay(Due.row16(0, 2, 1, 3));
        due.is("23 laid otherwise", 1, laid::explains);
    }

    private void heard24() {
        BookBridge b = Due.bridge(ONE_COURT);
        due.is("24 sure of none", 0, () -> b.heard(0, true));
        due.is("24 some", 3, () -> b.heard(0, false));
        due.is("24 sure", 1, () -> b.heard(1, true));
        due.is("24 and no other one", 1, () -> b.heard(1, false));
        due.is("24 behind the term", 0, () -> b.heard(3, false));
        b.see(0, 0, true);
        due.is("24 case 1 on day 0", 2, () -> b.heard(0, true));
        due.is("24 case 0 on day 2", 1, () -> b.heard(2, false));
        b.see(0, 2, true);
        due.is("24 nothing explains: sure", 0, () -> b.heard(1, true));
        due.is("24 nothing explains: some", 0, () -> b.heard(1, false));
        due.is("24 day below", NO_SUCH, () -> b.heard(-1, true));
        due.is("24 the last day", 0, () -> b.heard(99, true));
        due.is("24 day above", NO_SUCH, () -> b.heard(100, true));
    }

    private void first25() {
        BookBridge b = Due.bridge(ONE_COURT);
        due.is("25 no explains", NO_SUCH, b::first);
        b.heard(0, true);
        due.is("25 heard finds none", NO_SUCH, b::first);
        b.explains();
        due.is("25 the first", Due.row8(0, 1), b::first);
        b.see(0, 0, true);
        due.is("25 of the latest explains", Due.row8(0, 1), b::first);
        b.explains();
        due.is("25 the latest", Due.row8(1, 0), b::first);
        b.image();
        b.see(0, 2, true);
        b.explains();
        due.is("25 there was none", NO_SUCH, b::first);
        b.restore();
        due.is("25 it is in no image", NO_SUCH, b::first);
        b.explains();
        due.is("25 again", Due.row8(1, 0), b::first);
        Due.river(b, "x");
        due.is("25 a fault leaves it", Due.row8(1, 0), b::first);
        Due.river(b, ONE_COURT);
        due.is("25 gone with the river", NO_SUCH, b::first);
    }

    private void terms26() {
        BookBridge b = Due.bridge(ONE_COURT);
        // How often a docket of two is drawn 1 0, by which walker 0 gets over; walker 1 by the others.
        int[][] drawn = {{0, 1, 0}, {0, 5, 1}, {0, 40, 17}, {1, 5, 2}, {1, 40, 20}, {7, 40, 16}, {-5, 40, 22},
            {Integer.MAX_VALUE, 1, 1}, {Integer.MAX_VALUE, 40, 21}, {Integer.MIN_VALUE, 40, 17}};
        for (int[] row : drawn) {
            due.is("26 terms " + row[0] + " " + row[1], row[2], () -> b.terms(0, row[0], row[1]));
            due.is("26 the others " + row[0] + " " + row[1], row[1] - row[2], () -> b.terms(1, row[0], row[1]));
        }
        // How often of three cases the last is drawn first.
        BookBridge c = Due.bridge("book 9;book 5;case 0 1 0;case 0 1 0;case 0 1 1;plain 0 1 6 0 0;");
        int[][] third = {{0, 40, 10}, {1, 1, 1}, {1, 40, 12}, {7, 40, 19}, {-5, 40, 15}, {123456789, 40, 10}};
        for (int[] row : third) {
            due.is("26 three " + row[0] + " " + row[1], row[2], () -> c.terms(0, row[0], row[1]));
        }
        due.is("26 no terms", 0, () -> b.terms(0, 1, 0));
        due.is("26 the docket stays", 0, () -> b.hearing(0, 4));
        due.is("26 too few", ILLEGAL, () -> b.terms(0, 1, -1));
        due.is("26 too many", ILLEGAL, () -> b.terms(0, 1, 41));
        due.is("26 walker ahead of it", NO_SUCH, () -> b.terms(2, 1, 41));
        due.is("26 walker below", NO_SUCH, () -> b.terms(-1, 1, 1));
        due.is("26 no cases", 3, () -> Due.bridge("plain 0 0 0 0 0;").terms(0, 1, 3));
    }

    private void image27() {
        BookBridge b = Due.bridge(ONE_COURT);
        b.image();
        b.docket(Due.row8(1, 0));
        b.image();
        b.docket(Due.row8(0, 1));
        due.yes("27 in place of the first", b.restore());
        due.is("27 the second", 0, () -> b.hearing(1, 4));
        BookBridge none = new BookBridge();
        none.image();
        due.yes("27 of a new object", none.restore());
    }

    private void restore28() {
        BookBridge b = Due.bridge(ONE_COURT + "plain 0 2 6 2 2;");
        due.yes("28 none", !b.restore());
        b.docket(Due.row8(1, 0));
        b.lay(Due.row16(1, 0));
        b.see(0, 0, true);
        b.see(2, 2, true);
        b.docket(-1);
        b.see(0, 64, true);
        Due.river(b, "x");
        b.image();
        b.docket(Due.row8(0, 1));
        b.lay(Due.row16(0, 1));
        b.forget();
        b.forget();
        b.see(0, 0, false);
        b.docket(-1);
        b.lay(-1);
        b.see(0, 64, true);
        Due.river(b, "y y");
        b.feed(0, 0, 0, 0, 0);
        for (int i = 0; i < 2; i++) {
            due.yes("28 restore", b.restore());
            due.is("28 docket", 0, () -> b.hearing(1, 4));
            due.is("28 term", 1, () -> b.hearing(0, 3));
            due.is("28 laid", 0, () -> b.book(1, 1));
            due.is("28 planks", 2, () -> b.planks(0, 3));
            due.is("28 seen", 2, () -> b.count(7));
            due.is("28 what was seen", 1, b::explains);
            due.is("28 explained by", Due.row8(1, 0), b::first);
            due.is("28 status 0", 1, () -> b.count(9));
            due.is("28 status 1", 1, () -> b.count(10));
            due.is("28 status 2", 1, () -> b.count(11));
            due.is("28 the tape stays", 20, () -> b.count(8));
            b.forget();
            b.forget();
            b.see(1, 2, true);
            b.see(1, 63, false);
            b.docket(0);
        }
    }
}
