import java.util.ArrayList;
import java.util.Collections;
import java.util.HashSet;
import java.util.LinkedHashSet;
import java.util.List;
import java.util.NoSuchElementException;
import java.util.Set;
import java.util.TreeSet;
import java.util.regex.Matcher;
import java.util.regex.Pattern;

/** The document once more, written as plainly as it can be, day by day and set by set: to compare with. */
final class PlainBridge {
    private static final Pattern TOKEN = Pattern.compile("[a-z]+|[0-9]+|[^ \\n]", Pattern.DOTALL);
    private static final List<String> KINDS = List.of("plain", "farmer", "cart", "judge");

    record Case(int court, int days, Set<Integer> books) { }

    record Walker(int kind, int side, int legs, int load, int from, int to) { }

    record Sight(int walker, int day, boolean crossed) { }

    record Gap(int place, int planks) { }

    /** Whose cases are heard on which day, and who have begun. */
    record Calendar(List<Set<Integer>> heard, int[] begins, int length) { }

    static final class Told {
        final List<Integer> strengths = new ArrayList<>();
        final List<Case> cases = new ArrayList<>();
        final List<Walker> walkers = new ArrayList<>();
        final Set<Integer> floods = new HashSet<>();
        Integer fee;
        Integer wear;
    }

    private static final class Fault extends Exception {
        private static final long serialVersionUID = 1;
        final int code;
        final int place;

        Fault(int code, int place) {
            this.code = code;
            this.place = place;
        }
    }

    private final StringBuilder tape = new StringBuilder();
    private Told told = new Told();
    private int place = -1;
    private List<Integer> docket = new ArrayList<>();
    private List<Integer> laid = new ArrayList<>();
    private List<Sight> seen = new ArrayList<>();
    private int[] status = new int[3];
    private Integer found;
    private List<Integer> keptDocket;
    private List<Integer> keptLaid;
    private List<Sight> keptSeen;
    private int[] keptStatus;

    int feed(int... numbers) {
        if (tape.length() + 20 > 500) {
            return -1;
        }
        for (int number : numbers) {
            for (int i = 3; i >= 0; i--) {
                tape.append((char) (number >> 8 * i & 255));
            }
        }
        return tape.length();
    }

    int river(int n) {
        if (n < 0 || n > tape.length()) {
            throw new IllegalArgumentException();
        }
        String text = tape.substring(0, n);
        tape.setLength(0);
        try {
            told = new Parser(text).parse();
        } catch (Fault fault) {
            place = fault.place;
            status[0]++;
            return fault.code;
        }
        place = -1;
        docket = upTo(told.cases.size());
        laid = upTo(told.strengths.size());
        seen = new ArrayList<>();
        found = null;
        keptDocket = null;
        return 0;
    }

    private static List<Integer> upTo(int n) {
        List<Integer> row = new ArrayList<>();
        for (int i = 0; i < n; i++) {
            row.add(i);
        }
        return row;
    }

    private static final class Parser {
        private final List<String> tokens = new ArrayList<>();
        private final List<Integer> places = new ArrayList<>();
        private final Told out = new Told();
        private int at;

        Parser(String text) {
            Matcher matcher = TOKEN.matcher(text);
            while (matcher.find()) {
                tokens.add(matcher.group());
                places.add(matcher.start());
            }
            tokens.add("");
            places.add(text.length());
        }

        private String token() {
            return tokens.get(at);
        }

        private Fault fault(int code) {
            return new Fault(code, places.get(at));
        }

        private int number(int least, int most) throws Fault {
            if (!token().matches("[0-9]+")) {
                throw fault(1);
            }
            if (token().length() > 3 || Integer.parseInt(token()) < least || Integer.parseInt(token()) > most) {
                throw fault(2);
            }
            return Integer.parseInt(token());
        }

        private int take(int least, int most) throws Fault {
            int value = number(least, most);
            at++;
            return value;
        }

        private void room(boolean full, int code) throws Fault {
            if (full) {
                throw fault(code);
            }
            at++;
        }

        Told parse() throws Fault {
            while (!token().isEmpty()) {
                line();
                if (!token().equals(";")) {
                    throw fault(1);
                }
                at++;
            }
            return out;
        }

        private void line() throws Fault {
            String word = token();
            if (word.equals("book")) {
                room(out.strengths.size() == 10, 2);
                out.strengths.add(take(1, 20));
            } else if (word.equals("case")) {
                room(out.cases.size() == 7, 2);
                int court = take(0, 1);
                int days = take(1, 9);
                Set<Integer> books = new TreeSet<>();
                do {
                    int book = number(0, 999);
                    if (book >= out.strengths.size()) {
                        throw fault(3);
                    }
                    if (!books.add(book)) {
                        throw fault(4);
                    }
                    at++;
                } while (!token().equals(";"));
                out.cases.add(new Case(court, days, books));
            } else if (KINDS.contains(word)) {
                room(out.walkers.size() == 5, 2);
                int side = take(0, 1);
                int legs = take(0, 6);
                int load = take(0, 20);
                int from = take(0, 63);
                out.walkers.add(new Walker(KINDS.indexOf(word), side, legs, load, from, take(from, 63)));
            } else if (word.equals("flood")) {
                room(out.floods.size() == 5, 2);
                if (!out.floods.add(number(0, 63))) {
                    throw fault(4);
                }
                at++;
            } else if (word.equals("fee")) {
                room(out.fee != null, 5);
                out.fee = take(0, 99);
            } else if (word.equals("wear")) {
                room(out.wear != null, 5);
                out.wear = take(0, 9);
            } else {
                throw fault(1);
            }
        }
    }

    int fault() {
        return place;
    }

    int count(int what) {
        return switch (what) {
            case 0 -> told.strengths.size();
            case 1 -> told.cases.size();
            case 2 -> told.walkers.size();
            case 3 -> told.floods.size();
            case 4 -> told.fee == null ? 1 : told.fee;
            case 5 -> told.wear == null ? 0 : told.wear;
            case 6 -> calendar(docket).length;
            case 7 -> seen.size();
            case 8 -> tape.length();
            case 9, 10, 11 -> status[what - 9];
            default -> throw new NoSuchElementException();
        };
    }

    private static <T> T one(List<T> list, int index) {
        if (index < 0 || index >= list.size()) {
            throw new NoSuchElementException();
        }
        return list.get(index);
    }

    private static void day(int day) {
        if (day < 0 || day > 99) {
            throw new NoSuchElementException();
        }
    }

    private static int bits(Iterable<Integer> set) {
        int bits = 0;
        for (int i : set) {
            bits |= 1 << i;
        }
        return bits;
    }

    private Set<Integer> quoting(int book) {
        Set<Integer> set = new TreeSet<>();
        for (int i = 0; i < told.cases.size(); i++) {
            if (told.cases.get(i).books.contains(book)) {
                set.add(i);
            }
        }
        return set;
    }

    int book(int book, int what) {
        int strength = one(told.strengths, book);
        return switch (what) {
            case 0 -> strength;
            case 1 -> laid.indexOf(book);
            case 2 -> bits(quoting(book));
            default -> throw new NoSuchElementException();
        };
    }

    int hearing(int hearing, int what) {
        Case it = one(told.cases, hearing);
        return switch (what) {
            case 0 -> it.court;
            case 1 -> it.days;
            case 2 -> bits(it.books);
            case 3 -> calendar(docket).begins[hearing];
            case 4 -> docket.indexOf(hearing);
            default -> throw new NoSuchElementException();
        };
    }

    int walker(int walker, int what) {
        Walker w = one(told.walkers, walker);
        return switch (what) {
            case 0 -> w.kind;
            case 1 -> w.side;
            case 2 -> w.legs;
            case 3 -> w.load;
            case 4 -> w.from;
            case 5 -> w.to;
            default -> throw new NoSuchElementException();
        };
    }

    private static List<Integer> figures(long row, int base, int n) {
        List<Integer> list = new ArrayList<>();
        long rest = row;
        for (int i = 0; i < n; i++) {
            list.add((int) (rest % base));
            rest /= base;
        }
        return rest == 0 && new TreeSet<>(list).equals(new TreeSet<>(upTo(n))) ? list : null;
    }

    private static long row(List<Integer> list, int base) {
        long row = 0;
        for (int i = list.size() - 1; i >= 0; i--) {
            row = row * base + list.get(i);
        }
        return row;
    }

    boolean docket(int row) {
        List<Integer> list = row < 0 ? null : figures(row, 8, told.cases.size());
        if (list == null) {
            status[1]++;
            return false;
        }
        docket = list;
        return true;
    }

    boolean lay(long row) {
        List<Integer> list = row < 0 ? null : figures(row, 16, told.strengths.size());
        if (list == null) {
            status[1]++;
            return false;
        }
        laid = list;
        return true;
    }

    private Calendar calendar(List<Integer> order) {
        int n = told.cases.size();
        int[] begins = new int[n];
        int[] heardFor = new int[n];
        java.util.Arrays.fill(begins, -1);
        List<Set<Integer>> heard = new ArrayList<>();
        Set<Integer> now = new LinkedHashSet<>();
        int length = 0;
        for (int day = 0; day <= 99; day++) {
            now.removeIf(c -> heardFor[c] == told.cases.get(c).days);
            for (int c : order) {
                boolean free = begins[c] < 0;
                for (int other : now) {
                    free &= told.cases.get(other).court != told.cases.get(c).court
                            && Collections.disjoint(told.cases.get(other).books, told.cases.get(c).books);
                }
                if (free) {
                    begins[c] = day;
                    now.add(c);
                }
            }
            for (int c : now) {
                heardFor[c]++;
                length = day + 1;
            }
            heard.add(new TreeSet<>(now));
        }
        return new Calendar(heard, begins, length);
    }

    private Set<Integer> booksOf(Set<Integer> cases) {
        Set<Integer> books = new TreeSet<>();
        for (int c : cases) {
            books.addAll(told.cases.get(c).books);
        }
        return books;
    }

    int up(int day, int what) {
        day(day);
        Set<Integer> heard = calendar(docket).heard.get(day);
        return switch (what) {
            case 0 -> bits(booksOf(heard));
            case 1 -> bits(heard);
            default -> throw new NoSuchElementException();
        };
    }

    private boolean there(int book, Walker w, int day, Set<Integer> up, Calendar cal) {
        if (up.contains(book)) {
            return false;
        }
        int strength = told.strengths.get(book);
        for (int c : quoting(book)) {
            if (cal.begins[c] <= day) {
                strength -= told.wear == null ? 0 : told.wear;
            }
            if (w.kind == 3 && told.cases.get(c).court == w.side) {
                return false;
            }
        }
        return strength >= (w.kind == 2 ? 2 * w.load : w.load);
    }

    private List<Gap> gaps(Walker w, int day, Set<Integer> up, Calendar cal) {
        List<Gap> gaps = new ArrayList<>();
        int i = 0;
        while (i < laid.size()) {
            int j = i;
            while (j < laid.size() && !there(laid.get(j), w, day, up, cal)) {
                j++;
            }
            if (j > i) {
                gaps.add(new Gap(i, j - i));
            }
            i = j + 1;
        }
        return gaps;
    }

    /** What he pays for one gap; -1: it bars him. */
    private int price(Walker w, Gap gap, int day) {
        boolean flood = told.floods.contains(day);
        int steps = flood ? Math.max(0, w.legs - 1) : w.legs;
        if (gap.planks <= steps) {
            return 0;
        }
        boolean wades = w.kind == 1 && !flood && gap.planks - steps <= 3;
        return wades ? gap.planks * (told.fee == null ? 1 : told.fee) : -1;
    }

    private int pays(Walker w, int day, Set<Integer> up, Calendar cal) {
        int sum = 0;
        for (Gap gap : gaps(w, day, up, cal)) {
            int price = price(w, gap, day);
            if (price < 0) {
                return -1;
            }
            sum += price;
        }
        return sum;
    }

    private int pays(Walker w, int day, Calendar cal) {
        return pays(w, day, booksOf(cal.heard.get(day)), cal);
    }

    int planks(int walker, int day) {
        Walker w = one(told.walkers, walker);
        day(day);
        Calendar cal = calendar(docket);
        int bits = 0;
        for (int i = 0; i < laid.size(); i++) {
            bits |= there(laid.get(i), w, day, booksOf(cal.heard.get(day)), cal) ? 1 << i : 0;
        }
        return bits;
    }

    int crosses(int walker, int day) {
        Walker w = one(told.walkers, walker);
        day(day);
        return pays(w, day, calendar(docket));
    }

    int bar(int walker, int day) {
        Walker w = one(told.walkers, walker);
        day(day);
        Calendar cal = calendar(docket);
        for (Gap gap : gaps(w, day, booksOf(cal.heard.get(day)), cal)) {
            if (price(w, gap, day) < 0) {
                return 16 * gap.place + gap.planks;
            }
        }
        return -1;
    }

    private int firstOver(Walker w, Calendar cal) {
        for (int day = w.from; day <= w.to; day++) {
            if (pays(w, day, cal) >= 0) {
                return day;
            }
        }
        return -1;
    }

    int over(int walker) {
        return firstOver(one(told.walkers, walker), calendar(docket));
    }

    private static void orders(List<Integer> begun, int n, List<List<Integer>> out) {
        if (begun.size() == n) {
            out.add(new ArrayList<>(begun));
            return;
        }
        for (int i = 0; i < n; i++) {
            if (!begun.contains(i)) {
                begun.add(i);
                orders(begun, n, out);
                begun.remove(begun.size() - 1);
            }
        }
    }

    private static List<List<Integer>> orders(int n) {
        List<List<Integer>> out = new ArrayList<>();
        orders(new ArrayList<>(), n, out);
        return out;
    }

    int best(int what) {
        if (what < 0 || what > 2) {
            throw new NoSuchElementException();
        }
        int[] best = {0, -1, 0};
        for (List<Integer> order : orders(told.cases.size())) {
            Calendar cal = calendar(order);
            int over = 0;
            for (Walker w : told.walkers) {
                over += firstOver(w, cal) >= 0 ? 1 : 0;
            }
            if (over > best[1] || over == best[1] && cal.length < best[2]) {
                best = new int[] {(int) row(order, 8), over, cal.length};
            }
        }
        return best[what];
    }

    long lays(int what) {
        if (what < 0 || what > 2) {
            throw new NoSuchElementException();
        }
        if (told.strengths.size() > 7) {
            return -2;
        }
        Calendar cal = calendar(docket);
        long[] best = {0, 99, 0};
        for (List<Integer> order : orders(told.strengths.size())) {
            int longest = 0;
            int wide = 0;
            for (int day = 0; day < cal.length; day++) {
                Set<Integer> up = booksOf(cal.heard.get(day));
                int run = 0;
                for (int i = 0; i <= order.size(); i++) {
                    if (i < order.size() && up.contains(order.get(i))) {
                        run++;
                    } else {
                        longest = Math.max(longest, run);
                        wide += run >= 2 ? 1 : 0;
                        run = 0;
                    }
                }
            }
            if (longest < best[1] || longest == best[1] && wide < best[2]) {
                best = new long[] {row(order, 16), longest, wide};
            }
        }
        return best[what];
    }

    private static Set<Integer> set(int bits) {
        Set<Integer> set = new TreeSet<>();
        for (int i = 0; i < 16; i++) {
            if ((bits >> i & 1) != 0) {
                set.add(i);
            }
        }
        return set;
    }

    int suit(int walker, int day) {
        Walker w = one(told.walkers, walker);
        day(day);
        Calendar cal = calendar(docket);
        Set<Integer> up = booksOf(cal.heard.get(day));
        for (int size = 0; size <= told.strengths.size(); size++) {
            for (int bits = 0; bits < 1 << told.strengths.size(); bits++) {
                Set<Integer> more = set(bits);
                if (more.size() == size && Collections.disjoint(more, up)) {
                    more.addAll(up);
                    if (pays(w, day, more, cal) < 0) {
                        return bits;
                    }
                }
            }
        }
        return -1;
    }

    int settled(int walker, int day) {
        Walker w = one(told.walkers, walker);
        day(day);
        Calendar cal = calendar(docket);
        Set<Integer> heard = cal.heard.get(day);
        for (int size = 0; size <= heard.size(); size++) {
            for (int bits = 0; bits < 1 << told.cases.size(); bits++) {
                Set<Integer> left = new TreeSet<>(heard);
                if (set(bits).size() == size && heard.containsAll(set(bits))) {
                    left.removeAll(set(bits));
                    if (pays(w, day, booksOf(left), cal) >= 0) {
                        return bits;
                    }
                }
            }
        }
        return -1;
    }

    /** How well off he is: first whether he crosses, then whether the other one doesn't. */
    private int joy(Walker w, Walker other, int day, Set<Integer> up, Calendar cal) {
        return (pays(w, day, up, cal) >= 0 ? 10 : 0) + (pays(other, day, up, cal) < 0 ? 1 : 0);
    }

    private static Set<Integer> with(Set<Integer> up, int one, int two) {
        Set<Integer> more = new TreeSet<>(up);
        more.add(one);
        more.add(two);
        more.remove(-1);
        return more;
    }

    int feud(int walker, int other, int day, int what) {
        Walker w = one(told.walkers, walker);
        Walker o = one(told.walkers, other);
        day(day);
        if (what < 0 || what > 1) {
            throw new NoSuchElementException();
        }
        if (walker == other) {
            throw new IllegalArgumentException();
        }
        Calendar cal = calendar(docket);
        Set<Integer> up = booksOf(cal.heard.get(day));
        List<Integer> choices = new ArrayList<>();
        for (int book = -1; book < told.strengths.size(); book++) {
            if (!up.contains(book)) {
                choices.add(book);
            }
        }
        int many = 0;
        int first = -1;
        for (int his : choices) {
            for (int hers : choices) {
                boolean rests = true;
                for (int another : choices) {
                    rests &= joy(w, o, day, with(up, another, hers), cal) <= joy(w, o, day, with(up, his, hers), cal);
                    rests &= joy(o, w, day, with(up, his, another), cal) <= joy(o, w, day, with(up, his, hers), cal);
                }
                if (rests) {
                    first = many == 0 ? 16 * (his + 1) + hers + 1 : first;
                    many++;
                }
            }
        }
        return what == 0 ? many : first;
    }

    int see(int walker, int day, boolean crossed) {
        one(told.walkers, walker);
        day(day);
        if (seen.size() == 10 || day > 63) {
            status[2]++;
            return -1;
        }
        seen.add(new Sight(walker, day, crossed));
        return seen.size();
    }

    int forget() {
        if (seen.isEmpty()) {
            return -1;
        }
        seen.remove(seen.size() - 1);
        return seen.size();
    }

    private List<List<Integer>> explaining() {
        List<List<Integer>> list = new ArrayList<>();
        for (List<Integer> order : orders(told.cases.size())) {
            Calendar cal = calendar(order);
            boolean so = true;
            for (Sight sight : seen) {
                so &= pays(told.walkers.get(sight.walker), sight.day, cal) >= 0 == sight.crossed;
            }
            if (so) {
                list.add(order);
            }
        }
        return list;
    }

    int explains() {
        List<List<Integer>> list = explaining();
        found = list.isEmpty() ? null : (int) row(list.get(0), 8);
        return list.size();
    }

    int heard(int day, boolean sure) {
        day(day);
        List<List<Integer>> list = explaining();
        Set<Integer> all = new TreeSet<>(upTo(told.cases.size()));
        Set<Integer> some = new TreeSet<>();
        for (List<Integer> order : list) {
            Set<Integer> heard = calendar(order).heard.get(day);
            all.retainAll(heard);
            some.addAll(heard);
        }
        return list.isEmpty() ? 0 : bits(sure ? all : some);
    }

    int first() {
        if (found == null) {
            throw new NoSuchElementException();
        }
        return found;
    }

    int terms(int walker, int seed, int terms) {
        Walker w = one(told.walkers, walker);
        if (terms < 0 || terms > 40) {
            throw new IllegalArgumentException();
        }
        int now = seed;
        int often = 0;
        for (int i = 0; i < terms; i++) {
            List<Integer> left = upTo(told.cases.size());
            List<Integer> order = new ArrayList<>();
            while (!left.isEmpty()) {
                now = now * 1103515245 + 12345;
                order.add(left.remove((now >> 16 & 32767) % left.size()));
            }
            often += firstOver(w, calendar(order)) >= 0 ? 1 : 0;
        }
        return often;
    }

    void image() {
        keptDocket = new ArrayList<>(docket);
        keptLaid = new ArrayList<>(laid);
        keptSeen = new ArrayList<>(seen);
        keptStatus = status.clone();
    }

    boolean restore() {
        if (keptDocket == null) {
            return false;
        }
        docket = new ArrayList<>(keptDocket);
        laid = new ArrayList<>(keptLaid);
        seen = new ArrayList<>(keptSeen);
        status = keptStatus.clone();
        return true;
    }
}
