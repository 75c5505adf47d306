import java.util.Arrays;
import java.util.NoSuchElementException;

/**
 * The well-read bridge: planks are books of law, two courts take them up by a docket, and walkers
 * step over the gaps. See README.md for how it is used; the document's words stand in capitals.
 */
public final class BookBridge {
    public static final int NONE = -1;

    private static final int MOST_BOOKS = 10;
    private static final int MOST_CASES = 7;
    private static final int MOST_WALKERS = 5;
    private static final int MOST_FLOODS = 5;
    private static final int MOST_BYTES = 500;
    private static final int MOST_SEEN = 10;
    private static final int MOST_TERMS = 40;
    private static final int LAST_WALK = 63;
    private static final int LAST_DAY = 99;
    private static final int CASE_BITS = 3;
    private static final int BOOK_BITS = 4;

    private final byte[] tape = new byte[MOST_BYTES];
    private int taped;
    private int faultPlace = NONE;

    /** Two rivers change places, so that a text with a FAULT leaves the standing one alone. */
    private River river = new River();
    private River draft = new River();
    private final Clerk clerk = new Clerk(draft);

    private final State state = new State();
    private final State kept = new State();
    private boolean hasImage;

    private final Term term = new Term(river);
    private final Term trial = new Term(river);
    private final Bridge bridge = new Bridge(river);
    private final Dockets dockets = new Dockets();
    private final Layings layings = new Layings();
    private final Quarrel quarrel = new Quarrel(bridge);
    private final Lot lot = new Lot();
    private final int[] figures = new int[MOST_BOOKS];

    private boolean explained;
    private int explainedFirst;

    public BookBridge() {
        state.begin();
        term.hold(river, state.docket);
        bridge.build(river, state.laid);
    }

    public int feed(int a, int b, int c, int d, int e) {
        if (taped + 20 > MOST_BYTES) {
            return NONE;
        }
        tapeNumber(a);
        tapeNumber(b);
        tapeNumber(c);
        tapeNumber(d);
        tapeNumber(e);
        return taped;
    }

    private void tapeNumber(int number) {
        for (int shift = 24; shift >= 0 && taped < MOST_BYTES; shift -= 8) {
            tape[taped] = (byte) (number >>> shift);
            taped++;
        }
    }

    public int river(int n) throws IllegalArgumentException {
        if (n < 0 || n > taped) {
            throw new IllegalArgumentException("the tape has not so many bytes");
        }
        taped = 0;
        int fault = clerk.read(tape, n, draft);
        if (fault != 0) {
            faultPlace = clerk.place();
            state.refuse(0);
            return fault;
        }
        faultPlace = NONE;
        River old = river;
        river = draft;
        draft = old;
        state.begin();
        hasImage = false;
        explained = false;
        dockets.drop();
        takeDocket();
        takeLaying();
        return 0;
    }

    public int fault() {
        return faultPlace;
    }

    public int count(int what) throws NoSuchElementException {
        switch (what) {
            case 0: return river.books;
            case 1: return river.cases;
            case 2: return river.walkers;
            case 3: return Long.bitCount(river.floods);
            case 4: return river.fee;
            case 5: return river.wear;
            case 6: return term.length;
            case 7: return state.seen;
            case 8: return taped;
            case 9: return state.status[0];
            case 10: return state.status[1];
            case 11: return state.status[2];
            default: throw new NoSuchElementException("no such what");
        }
    }

    public int book(int book, int what) throws NoSuchElementException {
        if (book < 0 || book >= river.books) {
            throw new NoSuchElementException("no such BOOK");
        }
        switch (what) {
            case 0: return river.strength[book];
            case 1: return placeOf(state.laid, river.books, book);
            case 2: return river.quotedBy[book];
            default: throw new NoSuchElementException("no such what");
        }
    }

    public int hearing(int hearing, int what) throws NoSuchElementException {
        if (hearing < 0 || hearing >= river.cases) {
            throw new NoSuchElementException("no such CASE");
        }
        switch (what) {
            case 0: return river.court[hearing];
            case 1: return river.days[hearing];
            case 2: return river.quotes[hearing];
            case 3: return term.begins[hearing];
            case 4: return placeOf(state.docket, river.cases, hearing);
            default: throw new NoSuchElementException("no such what");
        }
    }

    private static int placeOf(int[] row, int n, int wanted) {
        for (int place = 0; place < n; place++) {
            if (row[place] == wanted) {
                return place;
            }
        }
        return NONE;
    }

    public int walker(int walker, int what) throws NoSuchElementException {
        needWalker(walker);
        Walker who = river.walker[walker];
        switch (what) {
            case 0: return who.kind;
            case 1: return who.side;
            case 2: return who.legs;
            case 3: return who.load;
            case 4: return who.from;
            case 5: return who.to;
            default: throw new NoSuchElementException("no such what");
        }
    }

    public boolean docket(int row) {
        if (!readFigures(row, CASE_BITS, river.cases, figures)) {
            state.refuse(1);
            return false;
        }
        System.arraycopy(figures, 0, state.docket, 0, river.cases);
        takeDocket();
        return true;
    }

    public boolean lay(long row) {
        if (!readFigures(row, BOOK_BITS, river.books, figures)) {
            state.refuse(1);
            return false;
        }
        System.arraycopy(figures, 0, state.laid, 0, river.books);
        takeLaying();
        return true;
    }

    /** Whatever hangs on the DOCKET is found anew. */
    private void takeDocket() {
        term.hold(river, state.docket);
        layings.drop();
    }

    /** Whatever hangs on how planks are laid is found anew. */
    private void takeLaying() {
        bridge.build(river, state.laid);
        dockets.dropBest();
    }

    /** Reads n figures, each of 0 .. n - 1 once; what is left of the row behind them must be 0. */
    private static boolean readFigures(long row, int bits, int n, int[] into) {
        long rest = row;
        int told = 0;
        for (int i = 0; i < n; i++) {
            int figure = (int) (rest & ((1 << bits) - 1));
            rest >>>= bits;
            if (figure >= n || (told >> figure & 1) != 0) {
                return false;
            }
            told |= 1 << figure;
            into[i] = figure;
        }
        return rest == 0;
    }

    private static long writeFigures(int[] row, int n, int bits) {
        long written = 0;
        for (int i = n - 1; i >= 0; i--) {
            written = written << bits | row[i];
        }
        return written;
    }

    public int up(int day, int what) throws NoSuchElementException {
        needDay(day);
        switch (what) {
            case 0: return river.quotedIn(term.heardOn(day));
            case 1: return term.heardOn(day);
            default: throw new NoSuchElementException("no such what");
        }
    }

    public int planks(int walker, int day) throws NoSuchElementException {
        needWalker(walker);
        needDay(day);
        return bridge.all() & ~gapsOn(walker, day);
    }

    public int crosses(int walker, int day) throws NoSuchElementException {
        needWalker(walker);
        needDay(day);
        int gaps = gapsOn(walker, day);
        if (!bridge.passes(walker, gaps, river.floodOn(day))) {
            return NONE;
        }
        return bridge.pays(walker, gaps, river.floodOn(day));
    }

    public int bar(int walker, int day) throws NoSuchElementException {
        needWalker(walker);
        needDay(day);
        return bridge.barIn(walker, gapsOn(walker, day), river.floodOn(day));
    }

    private int gapsOn(int walker, int day) {
        return bridge.gaps(walker, bridge.placesOf(river.quotedIn(term.heardOn(day))), term.begunBy(day));
    }

    public int over(int walker) throws NoSuchElementException {
        needWalker(walker);
        Walker who = river.walker[walker];
        for (int day = who.from; day <= who.to; day++) {
            if (bridge.passes(walker, gapsOn(walker, day), river.floodOn(day))) {
                return day;
            }
        }
        return NONE;
    }

    public int best(int what) throws NoSuchElementException {
        if (what < 0 || what > 2) {
            throw new NoSuchElementException("no such what");
        }
        dockets.list(river, trial);
        dockets.findBest(river, bridge, trial);
        switch (what) {
            case 0: return dockets.bestRow;
            case 1: return dockets.bestOver;
            default: return dockets.bestLength;
        }
    }

    public long lays(int what) throws NoSuchElementException {
        if (what < 0 || what > 2) {
            throw new NoSuchElementException("no such what");
        }
        if (river.books > Layings.MOST_LAID) {
            return Layings.SPENT;
        }
        layings.find(river, term);
        switch (what) {
            case 0: return layings.bestRow;
            case 1: return layings.bestLongest;
            default: return layings.bestWide;
        }
    }

    public int suit(int walker, int day) throws NoSuchElementException {
        needWalker(walker);
        needDay(day);
        int up = river.quotedIn(term.heardOn(day));
        int begun = term.begunBy(day);
        int fewest = MOST_BOOKS + 1;
        int found = NONE;
        for (int books = 0; books < 1 << river.books; books++) {
            if ((books & up) == 0 && Integer.bitCount(books) < fewest) {
                int gaps = bridge.gaps(walker, bridge.placesOf(books | up), begun);
                if (!bridge.passes(walker, gaps, river.floodOn(day))) {
                    fewest = Integer.bitCount(books);
                    found = books;
                }
            }
        }
        return found;
    }

    public int settled(int walker, int day) throws NoSuchElementException {
        needWalker(walker);
        needDay(day);
        int heard = term.heardOn(day);
        int begun = term.begunBy(day);
        int fewest = MOST_CASES + 1;
        int found = NONE;
        for (int cases = 0; cases <= heard; cases++) {
            if ((cases & ~heard) == 0 && Integer.bitCount(cases) < fewest) {
                int up = river.quotedIn(heard & ~cases);
                int gaps = bridge.gaps(walker, bridge.placesOf(up), begun);
                if (bridge.passes(walker, gaps, river.floodOn(day))) {
                    fewest = Integer.bitCount(cases);
                    found = cases;
                }
            }
        }
        return found;
    }

    public int feud(int walker, int other, int day, int what)
            throws NoSuchElementException, IllegalArgumentException {
        needWalker(walker);
        needWalker(other);
        needDay(day);
        if (what != 0 && what != 1) {
            throw new NoSuchElementException("no such what");
        }
        if (walker == other) {
            throw new IllegalArgumentException("both are one");
        }
        quarrel.bringForth(river, term, day);
        quarrel.weighAll(walker, other);
        quarrel.findRests();
        return what == 0 ? quarrel.rests : quarrel.firstRest;
    }

    public int see(int walker, int day, boolean crossed) throws NoSuchElementException {
        needWalker(walker);
        needDay(day);
        if (day > LAST_WALK || state.seen >= MOST_SEEN) {
            state.refuse(2);
            return NONE;
        }
        return state.note(walker, day, crossed);
    }

    public int forget() {
        if (state.seen == 0) {
            return NONE;
        }
        state.seen--;
        return state.seen;
    }

    public int explains() {
        dockets.list(river, trial);
        int many = 0;
        for (int i = 0; i < dockets.size; i++) {
            if (explainsAll(dockets.terms[i])) {
                if (many == 0) {
                    explainedFirst = dockets.rows[i];
                }
                many += dockets.many[i];
            }
        }
        explained = many > 0;
        return many;
    }

    /** Sets the trial TERM, and tells whether all that was SEEN would be so in it. */
    private boolean explainsAll(long packed) {
        trial.unpack(river, packed);
        for (int i = 0; i < state.seen; i++) {
            int day = state.seenDay[i];
            int places = bridge.placesOf(river.quotedIn(trial.heardOn(day)));
            int gaps = bridge.gaps(state.seenWalker[i], places, trial.begunBy(day));
            if (bridge.passes(state.seenWalker[i], gaps, river.floodOn(day)) != state.seenCrossed[i]) {
                return false;
            }
        }
        return true;
    }

    public int heard(int day, boolean sure) throws NoSuchElementException {
        needDay(day);
        dockets.list(river, trial);
        int byAll = (1 << river.cases) - 1;
        int bySome = 0;
        boolean any = false;
        for (int i = 0; i < dockets.size; i++) {
            if (explainsAll(dockets.terms[i])) {
                int cases = trial.heardOn(day);
                byAll &= cases;
                bySome |= cases;
                any = true;
            }
        }
        if (!any) {
            return 0;
        }
        return sure ? byAll : bySome;
    }

    public int first() throws NoSuchElementException {
        if (!explained) {
            throw new NoSuchElementException("no DOCKET EXPLAINED");
        }
        return explainedFirst;
    }

    public int terms(int walker, int seed, int terms)
            throws NoSuchElementException, IllegalArgumentException {
        needWalker(walker);
        if (terms < 0 || terms > MOST_TERMS) {
            throw new IllegalArgumentException("0 to 40 TERMS");
        }
        lot.seed = seed;
        int often = 0;
        for (int i = 0; i < terms; i++) {
            lot.drawDocket(figures, river.cases);
            trial.hold(river, figures);
            if (bridge.whoGetOver(trial, 1 << walker) != 0) {
                often++;
            }
        }
        return often;
    }

    public void image() {
        kept.copy(state);
        hasImage = true;
    }

    public boolean restore() {
        if (!hasImage) {
            return false;
        }
        state.copy(kept);
        takeDocket();
        takeLaying();
        return true;
    }

    private void needWalker(int walker) {
        if (walker < 0 || walker >= river.walkers) {
            throw new NoSuchElementException("no such WALKER");
        }
    }

    private static void needDay(int day) {
        if (day < 0 || day > LAST_DAY) {
            throw new NoSuchElementException("no such DAY");
        }
    }

    /** The next row in the order of rows; false behind the last one. */
    private static boolean nextRow(int[] row, int n) {
        int turn = n - 2;
        while (turn >= 0 && row[turn] > row[turn + 1]) {
            turn--;
        }
        if (turn < 0) {
            return false;
        }
        int above = n - 1;
        while (above > turn + 1 && row[above] < row[turn]) {
            above--;
        }
        swap(row, turn, above);
        for (int low = turn + 1, high = n - 1; low < high; low++, high--) {
            swap(row, low, high);
        }
        return true;
    }

    private static void swap(int[] row, int one, int other) {
        int kept = row[one];
        row[one] = row[other];
        row[other] = kept;
    }

    private static void fillInOrder(int[] row) {
        for (int i = 0; i < row.length; i++) {
            row[i] = i;
        }
    }

    private static int longestRun(int bits) {
        int rest = bits;
        int longest = 0;
        while (rest != 0 && longest < 32) {
            rest &= rest << 1;
            longest++;
        }
        return longest;
    }

    private static final class Walker {
        static final int FARMER = 1;
        static final int CART = 2;
        static final int JUDGE = 3;

        int kind;
        int side;
        int legs;
        int load;
        int from;
        int to;

        /** His DAYS as bits. */
        long days() {
            return (-1L >>> (LAST_WALK - to)) & (-1L << from);
        }

        int needs() {
            return kind == CART ? 2 * load : load;
        }

        /** The longest GAP that he steps over. */
        int steps(boolean flood) {
            return flood && legs > 0 ? legs - 1 : legs;
        }

        /** The longest GAP that he gets through. */
        int reach(boolean flood) {
            return kind == FARMER && !flood ? legs + 3 : steps(flood);
        }
    }

    /** What a TEXT tells. */
    private static final class River {
        int books;
        int cases;
        int walkers;
        final int[] strength = new int[MOST_BOOKS];
        final int[] quotedBy = new int[MOST_BOOKS];
        final int[] court = new int[MOST_CASES];
        final int[] days = new int[MOST_CASES];
        final int[] quotes = new int[MOST_CASES];
        final Walker[] walker = new Walker[MOST_WALKERS];
        /** DAYS as bits. */
        long floods;
        int fee = 1;
        int wear;

        River() {
            for (int i = 0; i < MOST_WALKERS; i++) {
                walker[i] = new Walker();
            }
        }

        void clear() {
            books = 0;
            cases = 0;
            walkers = 0;
            floods = 0;
            fee = 1;
            wear = 0;
        }

        boolean floodOn(int day) {
            return day <= LAST_WALK && (floods >>> day & 1) != 0;
        }

        int quotedIn(int someCases) {
            int found = 0;
            for (int i = 0; i < cases; i++) {
                if ((someCases >> i & 1) != 0) {
                    found |= quotes[i];
                }
            }
            return found;
        }

        int casesOfCourt(int wanted) {
            int found = 0;
            for (int i = 0; i < cases; i++) {
                if (court[i] == wanted) {
                    found |= 1 << i;
                }
            }
            return found;
        }

        void addBook(int itsStrength) {
            if (books < MOST_BOOKS) {
                strength[books] = itsStrength;
                quotedBy[books] = 0;
                books++;
            }
        }

        void addCase(int itsCourt, int itsDays, int itsQuotes) {
            if (cases < MOST_CASES) {
                court[cases] = itsCourt;
                days[cases] = itsDays;
                quotes[cases] = itsQuotes;
                for (int i = 0; i < books; i++) {
                    quotedBy[i] |= (itsQuotes >> i & 1) << cases;
                }
                cases++;
            }
        }
    }

    /** Cuts a TEXT into TOKENS; the latest one stands in kind, start, value. */
    private static final class Reader {
        static final int END = 0;
        static final int WORD = 1;
        static final int NUMBER = 2;
        static final int LONG_NUMBER = 3;
        static final int SIGN = 4;
        static final int NO_TOKEN = 5;

        private byte[] text = new byte[0];
        private int length;
        private int at;
        int kind;
        int start;
        int value;

        void open(byte[] bytes, int n) {
            text = bytes;
            length = Math.min(n, bytes.length);
            at = 0;
            next();
        }

        void next() {
            while (at < length && (text[at] == ' ' || text[at] == '\n')) {
                at++;
            }
            start = at;
            value = 0;
            if (at >= length) {
                kind = END;
            } else if (isLetter(text[at])) {
                kind = WORD;
                while (at < length && isLetter(text[at])) {
                    at++;
                }
            } else if (isDigit(text[at])) {
                readNumber();
            } else {
                kind = text[at] == ';' ? SIGN : NO_TOKEN;
                at++;
            }
        }

        private void readNumber() {
            while (at < length && isDigit(text[at])) {
                if (at - start < 3) {
                    value = 10 * value + text[at] - '0';
                }
                at++;
            }
            kind = at - start <= 3 ? NUMBER : LONG_NUMBER;
        }

        private static boolean isLetter(byte sign) {
            return sign >= 'a' && sign <= 'z';
        }

        private static boolean isDigit(byte sign) {
            return sign >= '0' && sign <= '9';
        }

        boolean isWord(String word) {
            if (kind != WORD || at - start != word.length()) {
                return false;
            }
            for (int i = 0; i < word.length(); i++) {
                if (text[start + i] != word.charAt(i)) {
                    return false;
                }
            }
            return true;
        }
    }

    /** Reads a TEXT into a river; every part answers 0 or the FAULT, with the reader still at it. */
    private static final class Clerk {
        private static final int WRONG = 1;
        private static final int TOO_MUCH = 2;
        private static final int NOT_TOLD = 3;
        private static final int TWICE = 4;
        private static final int SECOND = 5;
        /** The highest SIDE, LEGS, LOAD, FROM, TO. */
        private static final int[] WALKER_MOST = {1, 6, 20, 63, 63};

        private final Reader in = new Reader();
        private final int[] got = new int[WALKER_MOST.length];
        private River out;
        private boolean feeTold;
        private boolean wearTold;

        Clerk(River first) {
            out = first;
        }

        int place() {
            return in.start;
        }

        int read(byte[] text, int n, River into) {
            out = into;
            out.clear();
            feeTold = false;
            wearTold = false;
            in.open(text, n);
            int fault = 0;
            for (int line = 0; line <= MOST_BYTES && fault == 0 && in.kind != Reader.END; line++) {
                fault = readBody();
                if (fault == 0) {
                    fault = readSign();
                }
            }
            return fault;
        }

        private int readSign() {
            if (in.kind != Reader.SIGN) {
                return WRONG;
            }
            in.next();
            return 0;
        }

        /** A LINE but for its end. */
        private int readBody() {
            if (in.isWord("book")) {
                return readBook();
            }
            if (in.isWord("case")) {
                return readCase();
            }
            if (in.isWord("flood")) {
                return readFlood();
            }
            if (in.isWord("fee")) {
                return readFee();
            }
            if (in.isWord("wear")) {
                return readWear();
            }
            int kind = kindOfWord();
            return kind < 0 ? WRONG : readWalker(kind);
        }

        private int kindOfWord() {
            if (in.isWord("plain")) {
                return 0;
            }
            if (in.isWord("farmer")) {
                return Walker.FARMER;
            }
            if (in.isWord("cart")) {
                return Walker.CART;
            }
            return in.isWord("judge") ? Walker.JUDGE : NONE;
        }

        /** The FAULT of the TOKEN as a NUMBER of these bounds; the reader stays at it. */
        private int checkNumber(int least, int most) {
            if (in.kind == Reader.LONG_NUMBER) {
                return TOO_MUCH;
            }
            if (in.kind != Reader.NUMBER) {
                return WRONG;
            }
            return in.value < least || in.value > most ? TOO_MUCH : 0;
        }

        private int readBook() {
            if (out.books >= MOST_BOOKS) {
                return TOO_MUCH;
            }
            in.next();
            int fault = checkNumber(1, 20);
            if (fault == 0) {
                out.addBook(in.value);
                in.next();
            }
            return fault;
        }

        private int readCase() {
            if (out.cases >= MOST_CASES) {
                return TOO_MUCH;
            }
            in.next();
            int fault = checkNumber(0, 1);
            if (fault != 0) {
                return fault;
            }
            int court = in.value;
            in.next();
            fault = checkNumber(1, 9);
            if (fault != 0) {
                return fault;
            }
            int days = in.value;
            in.next();
            int quotes = 0;
            for (int i = 0; i <= MOST_BOOKS && (i == 0 || in.kind != Reader.SIGN); i++) {
                fault = checkQuote(quotes);
                if (fault != 0) {
                    return fault;
                }
                quotes |= 1 << in.value;
                in.next();
            }
            out.addCase(court, days, quotes);
            return 0;
        }

        private int checkQuote(int quotes) {
            int fault = checkNumber(0, 999);
            if (fault != 0) {
                return fault;
            }
            if (in.value >= out.books) {
                return NOT_TOLD;
            }
            return (quotes >> in.value & 1) != 0 ? TWICE : 0;
        }

        private int readWalker(int kind) {
            if (out.walkers >= MOST_WALKERS) {
                return TOO_MUCH;
            }
            in.next();
            for (int i = 0; i < WALKER_MOST.length; i++) {
                int fault = checkNumber(i == 4 ? got[3] : 0, WALKER_MOST[i]);
                if (fault != 0) {
                    return fault;
                }
                got[i] = in.value;
                in.next();
            }
            Walker who = out.walker[out.walkers];
            who.kind = kind;
            who.side = got[0];
            who.legs = got[1];
            who.load = got[2];
            who.from = got[3];
            who.to = got[4];
            out.walkers++;
            return 0;
        }

        private int readFlood() {
            if (Long.bitCount(out.floods) >= MOST_FLOODS) {
                return TOO_MUCH;
            }
            in.next();
            int fault = checkNumber(0, LAST_WALK);
            if (fault != 0) {
                return fault;
            }
            if (out.floodOn(in.value)) {
                return TWICE;
            }
            out.floods |= 1L << in.value;
            in.next();
            return 0;
        }

        private int readFee() {
            if (feeTold) {
                return SECOND;
            }
            feeTold = true;
            in.next();
            int fault = checkNumber(0, 99);
            if (fault == 0) {
                out.fee = in.value;
                in.next();
            }
            return fault;
        }

        private int readWear() {
            if (wearTold) {
                return SECOND;
            }
            wearTold = true;
            in.next();
            int fault = checkNumber(0, 9);
            if (fault == 0) {
                out.wear = in.value;
                in.next();
            }
            return fault;
        }
    }

    /** What an image keeps. */
    private static final class State {
        final int[] docket = new int[MOST_CASES];
        final int[] laid = new int[MOST_BOOKS];
        final int[] seenWalker = new int[MOST_SEEN];
        final int[] seenDay = new int[MOST_SEEN];
        final boolean[] seenCrossed = new boolean[MOST_SEEN];
        int seen;
        final int[] status = new int[3];

        /** As a river comes; STATUS goes on. */
        void begin() {
            fillInOrder(docket);
            fillInOrder(laid);
            seen = 0;
        }

        void refuse(int what) {
            status[what]++;
        }

        int note(int walker, int day, boolean crossed) {
            if (seen < MOST_SEEN) {
                seenWalker[seen] = walker;
                seenDay[seen] = day;
                seenCrossed[seen] = crossed;
                seen++;
            }
            return seen;
        }

        void copy(State from) {
            System.arraycopy(from.docket, 0, docket, 0, MOST_CASES);
            System.arraycopy(from.laid, 0, laid, 0, MOST_BOOKS);
            System.arraycopy(from.seenWalker, 0, seenWalker, 0, MOST_SEEN);
            System.arraycopy(from.seenDay, 0, seenDay, 0, MOST_SEEN);
            System.arraycopy(from.status, 0, status, 0, status.length);
            for (int i = 0; i < MOST_SEEN; i++) {
                seenCrossed[i] = from.seenCrossed[i];
            }
            seen = from.seen;
        }
    }

    /** THE TERM by one DOCKET: when each CASE BEGINS. */
    private static final class Term {
        private static final int PACKED_BITS = 6;

        final int[] begins = new int[MOST_CASES];
        int length;
        private River river;
        private final int[] waiting = new int[MOST_CASES];
        private final int[] courtFree = new int[2];
        private final int[] courtBooks = new int[2];

        Term(River first) {
            river = first;
        }

        void hold(River itsRiver, int[] docket) {
            river = itsRiver;
            Arrays.fill(courtFree, 0);
            Arrays.fill(courtBooks, 0);
            System.arraycopy(docket, 0, waiting, 0, river.cases);
            int left = river.cases;
            int day = 0;
            // Nothing begins between two mornings on which a case is done, so these are skipped.
            for (int morning = 0; morning <= LAST_WALK && left > 0; morning++) {
                putBack(day);
                left = beginSome(left, day);
                day = nextMorning(day);
            }
            length = Math.max(courtFree[0], courtFree[1]);
        }

        private void putBack(int day) {
            for (int court = 0; court < 2; court++) {
                if (courtFree[court] <= day) {
                    courtBooks[court] = 0;
                }
            }
        }

        /** How many are still waiting, in their order. */
        private int beginSome(int left, int day) {
            int stay = 0;
            for (int i = 0; i < left; i++) {
                int hearing = waiting[i];
                int court = river.court[hearing];
                int books = river.quotes[hearing];
                if (courtFree[court] > day || ((courtBooks[0] | courtBooks[1]) & books) != 0) {
                    waiting[stay] = hearing;
                    stay++;
                } else {
                    begins[hearing] = day;
                    courtFree[court] = day + river.days[hearing];
                    courtBooks[court] = books;
                }
            }
            return stay;
        }

        private int nextMorning(int day) {
            int sooner = Math.min(courtFree[0], courtFree[1]);
            int later = Math.max(courtFree[0], courtFree[1]);
            return sooner > day ? sooner : Math.max(later, day + 1);
        }

        int heardOn(int day) {
            int cases = 0;
            for (int i = 0; i < river.cases; i++) {
                if (begins[i] <= day && day < begins[i] + river.days[i]) {
                    cases |= 1 << i;
                }
            }
            return cases;
        }

        int begunBy(int day) {
            int cases = 0;
            for (int i = 0; i < river.cases; i++) {
                if (begins[i] <= day) {
                    cases |= 1 << i;
                }
            }
            return cases;
        }

        /** Day 0 and the DAYS on which a CASE BEGINS or is done, as bits. */
        long changes() {
            long found = 1;
            for (int i = 0; i < river.cases; i++) {
                found |= 1L << begins[i] | 1L << begins[i] + river.days[i];
            }
            return found;
        }

        long pack() {
            long packed = length;
            for (int i = river.cases - 1; i >= 0; i--) {
                packed = packed << PACKED_BITS | begins[i];
            }
            return packed;
        }

        void unpack(River itsRiver, long packed) {
            river = itsRiver;
            long rest = packed;
            for (int i = 0; i < river.cases; i++) {
                begins[i] = (int) (rest & ((1 << PACKED_BITS) - 1));
                rest >>>= PACKED_BITS;
            }
            length = (int) rest;
        }
    }

    /** The planks as they are laid, and who gets over them. */
    private static final class Bridge {
        private static final int UNKNOWN = -1;
        private static final int BEGUN_SETS = 1 << MOST_CASES;

        private River river;
        private final int[] bookAt = new int[MOST_BOOKS];
        private final int[] placeBit = new int[MOST_BOOKS];
        /** By WALKER and by the set of CASES that have BEGUN: found when asked for. */
        private final int[] bearing = new int[MOST_WALKERS * BEGUN_SETS];

        Bridge(River first) {
            river = first;
        }

        void build(River itsRiver, int[] laid) {
            river = itsRiver;
            for (int place = 0; place < river.books; place++) {
                bookAt[place] = laid[place];
                placeBit[laid[place]] = 1 << place;
            }
            Arrays.fill(bearing, UNKNOWN);
        }

        int all() {
            return (1 << river.books) - 1;
        }

        int placesOf(int books) {
            int places = 0;
            for (int i = 0; i < river.books; i++) {
                if ((books >> i & 1) != 0) {
                    places |= placeBit[i];
                }
            }
            return places;
        }

        /** Places whose planks bear a WALKER, were none UP. */
        private int findBearing(Walker who, int begun) {
            int shunned = who.kind == Walker.JUDGE ? river.casesOfCourt(who.side) : 0;
            int places = 0;
            for (int place = 0; place < river.books; place++) {
                int quotedBy = river.quotedBy[bookAt[place]];
                int worn = river.wear * Integer.bitCount(quotedBy & begun);
                if (river.strength[bookAt[place]] - worn >= who.needs() && (quotedBy & shunned) == 0) {
                    places |= 1 << place;
                }
            }
            return places;
        }

        /** Places whose planks aren't THERE for a WALKER. */
        int gaps(int walker, int upPlaces, int begun) {
            int entry = walker * BEGUN_SETS + begun;
            if (bearing[entry] == UNKNOWN) {
                bearing[entry] = findBearing(river.walker[walker], begun);
            }
            return all() & ~(bearing[entry] & ~upPlaces);
        }

        boolean passes(int walker, int gaps, boolean flood) {
            return longestRun(gaps) <= river.walker[walker].reach(flood);
        }

        /** What one who passes pays. */
        int pays(int walker, int gaps, boolean flood) {
            int steps = river.walker[walker].steps(flood);
            int paid = 0;
            int run = 0;
            for (int place = 0; place <= river.books; place++) {
                if ((gaps >> place & 1) != 0) {
                    run++;
                } else {
                    paid += run > steps ? run * river.fee : 0;
                    run = 0;
                }
            }
            return paid;
        }

        int barIn(int walker, int gaps, boolean flood) {
            int reach = river.walker[walker].reach(flood);
            int run = 0;
            for (int place = 0; place <= river.books; place++) {
                if ((gaps >> place & 1) != 0) {
                    run++;
                } else if (run > reach) {
                    return 16 * (place - run) + run;
                } else {
                    run = 0;
                }
            }
            return NONE;
        }

        /** Which of the wanted WALKERS (bits) GET OVER in a TERM. */
        int whoGetOver(Term term, int wanted) {
            int over = 0;
            long rest = term.changes();
            for (int i = 0; i <= LAST_WALK && rest != 0 && over != wanted; i++) {
                long first = rest & -rest;
                rest ^= first;
                // The bits from the first up to the next change; to the highest one behind the last.
                long days = (rest & -rest) - first;
                over |= whoPass(term, Long.bitCount(first - 1), days, wanted & ~over);
            }
            return over;
        }

        /** The same on some DAYS between two changes, of which day is the first. */
        private int whoPass(Term term, int day, long days, int wanted) {
            int upPlaces = placesOf(river.quotedIn(term.heardOn(day)));
            int begun = term.begunBy(day);
            int passed = 0;
            for (int i = 0; i < river.walkers; i++) {
                long his = river.walker[i].days() & days;
                if ((wanted >> i & 1) != 0 && his != 0) {
                    // Who can't pass on a dry day can't in a flood, so one look is enough.
                    boolean flood = (his & ~river.floods) == 0;
                    if (passes(i, gaps(i, upPlaces, begun), flood)) {
                        passed |= 1 << i;
                    }
                }
            }
            return passed;
        }
    }

    /**
     * All DOCKETS of a river, listed when asked for. Many of them make the same TERM, so each TERM is
     * kept once, with its first DOCKET in the order of rows, and with how many make it.
     */
    private static final class Dockets {
        int size;
        int[] rows = new int[0];
        long[] terms = new long[0];
        int[] many = new int[0];
        private int[] slots = new int[0];
        private boolean listed;
        private final int[] row = new int[MOST_CASES];

        int bestRow;
        int bestOver;
        int bestLength;
        private boolean bestFound;

        void drop() {
            listed = false;
            bestFound = false;
        }

        void dropBest() {
            bestFound = false;
        }

        void list(River river, Term trial) {
            if (listed) {
                return;
            }
            int all = factorial(river.cases);
            makeRoom(all);
            fillInOrder(row);
            boolean more = true;
            for (int i = 0; i < all && more; i++) {
                trial.hold(river, row);
                enter(trial.pack(), river.cases);
                more = nextRow(row, river.cases);
            }
            listed = true;
        }

        private static int factorial(int n) {
            int product = 1;
            for (int i = 2; i <= n; i++) {
                product *= i;
            }
            return product;
        }

        private void makeRoom(int all) {
            if (rows.length < all) {
                rows = new int[all];
                terms = new long[all];
                many = new int[all];
                int wide = 2;
                while (wide < all + all / 2 && wide < 1 << 20) {
                    wide *= 2;
                }
                slots = new int[wide];
            }
            Arrays.fill(slots, NONE);
            size = 0;
        }

        /** Counts the TERM of the row; the slots are a power of two, more than there are TERMS. */
        private void enter(long packed, int cases) {
            int mask = slots.length - 1;
            int slot = (int) (packed * 0x9E3779B97F4A7C15L >>> 40) & mask;
            int probes = 0;
            while (probes < mask && slots[slot] != NONE && terms[slots[slot]] != packed) {
                slot = slot + 1 & mask;
                probes++;
            }
            if (slots[slot] == NONE) {
                slots[slot] = size;
                rows[size] = (int) writeFigures(row, cases, CASE_BITS);
                terms[size] = packed;
                many[size] = 0;
                size++;
            }
            many[slots[slot]]++;
        }

        void findBest(River river, Bridge bridge, Term trial) {
            if (bestFound) {
                return;
            }
            bestOver = NONE;
            for (int i = 0; i < size; i++) {
                trial.unpack(river, terms[i]);
                int over = Integer.bitCount(bridge.whoGetOver(trial, (1 << river.walkers) - 1));
                if (over > bestOver || over == bestOver && trial.length < bestLength) {
                    bestOver = over;
                    bestLength = trial.length;
                    bestRow = rows[i];
                }
            }
            bestFound = true;
        }
    }

    /** PLANKS: the order of laying them by which GAPS stay short; found when asked for. */
    private static final class Layings {
        static final int SPENT = -2;
        static final int MOST_LAID = 7;
        private static final int ALL_ORDERS = 5040;

        long bestRow;
        int bestLongest;
        int bestWide;
        private boolean found;
        private final int[] row = new int[MOST_LAID];
        /** The sets of BOOKS that are UP together, and on how many DAYS each. */
        private final int[] upBooks = new int[LAST_WALK + 1];
        private final int[] upDays = new int[LAST_WALK + 1];
        private int ups;
        private int longest;
        private int wide;

        void drop() {
            found = false;
        }

        void find(River river, Term term) {
            if (found || river.books > MOST_LAID) {
                return;
            }
            gatherUps(river, term);
            fillInOrder(row);
            bestLongest = MOST_BOOKS + 1;
            boolean more = true;
            for (int i = 0; i < ALL_ORDERS && more; i++) {
                measure(river.books);
                if (longest < bestLongest || longest == bestLongest && wide < bestWide) {
                    bestLongest = longest;
                    bestWide = wide;
                    bestRow = writeFigures(row, river.books, BOOK_BITS);
                }
                more = nextRow(row, river.books);
            }
            found = true;
        }

        private void gatherUps(River river, Term term) {
            ups = 0;
            for (int day = 0; day < term.length; day++) {
                int books = river.quotedIn(term.heardOn(day));
                int at = 0;
                while (at < ups && upBooks[at] != books) {
                    at++;
                }
                if (at < ups) {
                    upDays[at]++;
                } else if (ups <= LAST_WALK) {
                    upBooks[ups] = books;
                    upDays[ups] = 1;
                    ups++;
                }
            }
        }

        /** The row's longest GAP and how many GAPS of 2 or more it has; no further if it is worse. */
        private void measure(int books) {
            longest = 0;
            wide = 0;
            for (int i = 0; i < ups && longest <= bestLongest; i++) {
                int places = 0;
                for (int place = 0; place < books; place++) {
                    places |= (upBooks[i] >> row[place] & 1) << place;
                }
                longest = Math.max(longest, longestRun(places));
                int pairs = places & places << 1;
                wide += upDays[i] * Integer.bitCount(pairs & ~(pairs << 1));
            }
        }
    }

    /** FEUD: both choose none (0) or a BOOK (its number and 1) on one DAY. */
    private static final class Quarrel {
        private static final int CHOICES = MOST_BOOKS + 1;
        private static final int CLOSED = -1;

        int rests;
        int firstRest;
        private final Bridge bridge;
        private int choices;
        private int up;
        private int begun;
        private boolean flood;
        /** What each has of a couple of choices, and the most that he could have of his own one. */
        private final int[] gain = new int[CHOICES * CHOICES];
        private final int[] otherGain = new int[CHOICES * CHOICES];
        private final int[] most = new int[CHOICES];
        private final int[] otherMost = new int[CHOICES];

        Quarrel(Bridge itsBridge) {
            bridge = itsBridge;
        }

        void bringForth(River river, Term term, int day) {
            choices = river.books + 1;
            up = river.quotedIn(term.heardOn(day));
            begun = term.begunBy(day);
            flood = river.floodOn(day);
        }

        void weighAll(int walker, int other) {
            Arrays.fill(most, CLOSED);
            Arrays.fill(otherMost, CLOSED);
            for (int his = 0; his < choices; his++) {
                for (int others = 0; others < choices; others++) {
                    int couple = his * CHOICES + others;
                    weigh(couple, bookOf(his), bookOf(others), walker, other);
                    most[others] = Math.max(most[others], gain[couple]);
                    otherMost[his] = Math.max(otherMost[his], otherGain[couple]);
                }
            }
        }

        private static int bookOf(int choice) {
            return choice == 0 ? 0 : 1 << choice - 1;
        }

        private void weigh(int couple, int hisBook, int othersBook, int walker, int other) {
            if (((hisBook | othersBook) & up) != 0) {
                gain[couple] = CLOSED;
                otherGain[couple] = CLOSED;
                return;
            }
            int places = bridge.placesOf(up | hisBook | othersBook);
            int he = bridge.passes(walker, bridge.gaps(walker, places, begun), flood) ? 1 : 0;
            int she = bridge.passes(other, bridge.gaps(other, places, begun), flood) ? 1 : 0;
            // To cross weighs more than all that the other one can do.
            gain[couple] = 2 * he + 1 - she;
            otherGain[couple] = 2 * she + 1 - he;
        }

        void findRests() {
            rests = 0;
            firstRest = NONE;
            for (int his = 0; his < choices; his++) {
                for (int others = 0; others < choices; others++) {
                    int couple = his * CHOICES + others;
                    if (gain[couple] != CLOSED && gain[couple] == most[others]
                            && otherGain[couple] == otherMost[his]) {
                        firstRest = rests == 0 ? 16 * his + others : firstRest;
                        rests++;
                    }
                }
            }
        }
    }

    /** Draws DOCKETS by a seed. */
    private static final class Lot {
        int seed;
        private final int[] left = new int[MOST_CASES];

        void drawDocket(int[] row, int n) {
            fillInOrder(left);
            for (int i = 0; i < n; i++) {
                int pick = draw(n - i);
                row[i] = left[pick];
                System.arraycopy(left, pick + 1, left, pick, n - i - pick - 1);
            }
        }

        private int draw(int n) {
            seed = seed * 1103515245 + 12345;
            return n > 0 ? (seed >>> 16 & 0x7fff) % n : 0;
        }
    }
}
