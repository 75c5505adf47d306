import java.util.ArrayList;
import java.util.Collections;
import java.util.List;
import java.util.Random;

/** Long runs of calls by fixed seeds, each answer compared with the plain model's. */
public final class ModelTest {
    private static final int RUNS = 260;
    private static final int CALLS = 120;

    private final Random random;
    private final BookBridge bridge = new BookBridge();
    private final PlainBridge plain = new PlainBridge();
    private final Due due;
    private final int most;
    private final StringBuilder log = new StringBuilder();

    private ModelTest(long seed, Due due) {
        this.random = new Random(seed);
        this.due = due;
        // All dockets of many cases are dear for the model: few runs have them.
        this.most = seed % 20 == 0 ? 7 : seed % 4 == 0 ? 5 : 4;
    }

    public static void main(String[] args) {
        Due due = new Due();
        for (int seed = 0; seed < RUNS && due.wrong() == 0; seed++) {
            ModelTest test = new ModelTest(seed, due);
            test.run(seed % 20 == 0 ? 40 : CALLS);
            if (due.wrong() != 0) {
                System.out.println("seed " + seed + ":\n" + test.log);
            }
        }
        due.end();
    }

    private void run(int calls) {
        for (int i = 0; i < calls && due.wrong() == 0; i++) {
            if (i == 0 || random.nextInt(40) == 0) {
                comeRiver();
            } else {
                callOne();
            }
        }
    }

    private int below(int n) {
        return random.nextInt(n);
    }

    private void same(String call, Due.Call got, Due.Call want) {
        long answer = Due.answer(want);
        log.append(call).append(" -> ").append(Due.show(answer)).append('\n');
        due.is(call, answer, got);
    }

    private void comeRiver() {
        String text = text();
        if (below(4) == 0) {
            text = spoil(text);
        }
        log.append(text).append('\n');
        byte[] bytes = Due.padded(text);
        for (int i = 0; i < bytes.length; i += 20) {
            int a = Due.number(bytes, i);
            int b = Due.number(bytes, i + 4);
            int c = Due.number(bytes, i + 8);
            int d = Due.number(bytes, i + 12);
            int e = Due.number(bytes, i + 16);
            same("feed", () -> bridge.feed(a, b, c, d, e), () -> plain.feed(a, b, c, d, e));
        }
        int n = below(30) == 0 ? below(540) - 20 : text.length();
        same("river(" + n + ")", () -> bridge.river(n), () -> plain.river(n));
        same("fault()", bridge::fault, plain::fault);
    }

    private String text() {
        StringBuilder text = new StringBuilder();
        int books = below(20) == 0 ? 10 : most == 7 ? 3 + below(5) : below(9);
        for (int i = 0; i < books; i++) {
            text.append("book ").append(1 + below(below(2) == 0 ? 20 : 8)).append(';');
        }
        List<String> lines = new ArrayList<>();
        int cases = books == 0 ? 0 : most == 7 ? 6 + below(2) : below(most + 1);
        for (int i = 0; i < cases; i++) {
            lines.add(caseLine(books));
        }
        for (int i = below(6); i > 0; i--) {
            lines.add(walkerLine());
        }
        int day = below(8);
        for (int i = below(6); i > 0; i--) {
            lines.add("flood " + day);
            day += 1 + below(14);
        }
        if (below(2) == 0) {
            lines.add("fee " + below(100));
        }
        if (below(2) == 0) {
            lines.add("wear " + below(below(2) == 0 ? 3 : 10));
        }
        Collections.shuffle(lines, random);
        for (String line : lines) {
            text.append(line).append(below(3) == 0 ? " ;\n" : ";");
        }
        return text.length() > 500 ? text.substring(0, 500) : text.toString();
    }

    private String caseLine(int books) {
        List<Integer> all = new ArrayList<>();
        for (int i = 0; i < books; i++) {
            all.add(i);
        }
        Collections.shuffle(all, random);
        StringBuilder line = new StringBuilder("case " + below(2) + " " + (1 + below(below(2) == 0 ? 9 : 3)));
        int quotes = 1 + below(Math.min(books, 4));
        for (int i = 0; i < quotes; i++) {
            line.append(' ').append(all.get(i));
        }
        return line.toString();
    }

    private String walkerLine() {
        String[] kinds = {"plain", "farmer", "cart", "judge"};
        int from = below(below(2) == 0 ? 64 : 12);
        int to = from + below(Math.min(64 - from, below(2) == 0 ? 5 : 64));
        return kinds[below(4)] + " " + below(2) + " " + below(below(4) == 0 ? 7 : 3) + " "
                + below(below(4) == 0 ? 21 : 7) + " " + from + " " + to;
    }

    /** A text with one part of it changed, so that FAULTS of all sorts come. */
    private String spoil(String text) {
        if (text.isEmpty()) {
            return "x";
        }
        int at = below(text.length());
        int to = Math.min(text.length(), at + below(4));
        String[] parts = {"", "x", ";", " ", "\n", "7", "0", "1234", "99", "21", "book 3;", "case 0 1 0;", "fee 3;",
            "wear 1;", "flood 3;", "plain 0 1 1 5 3;", "judge 1 1 1 1 1;", "\u00e9", "\t", "case", "B", "cart 0;"};
        String spoilt = text.substring(0, at) + parts[below(parts.length)] + text.substring(to);
        return spoilt.length() > 500 ? spoilt.substring(0, 500) : spoilt;
    }

    private int anyDay() {
        return below(12) == 0 ? below(110) - 5 : below(below(2) == 0 ? 12 : 50);
    }

    private int anyWalker() {
        int walkers = plain.count(2);
        return walkers == 0 || below(25) == 0 ? below(8) - 1 : below(walkers);
    }

    private void callOne() {
        int w = anyWalker();
        int o = anyWalker();
        int day = anyDay();
        int what = below(14) - 1;
        int small = below(below(8) == 0 ? 6 : 3) - (below(15) == 0 ? 1 : 0);
        boolean flag = below(2) == 0;
        switch (below(26)) {
            case 0 -> same("count(" + what + ")", () -> bridge.count(what), () -> plain.count(what));
            case 1 -> same("book(" + w + "," + small + ")", () -> bridge.book(w, small), () -> plain.book(w, small));
            case 2 -> same("hearing(" + w + "," + what % 6 + ")", () -> bridge.hearing(w, what % 6),
                    () -> plain.hearing(w, what % 6));
            case 3 -> same("walker(" + w + "," + what % 7 + ")", () -> bridge.walker(w, what % 7),
                    () -> plain.walker(w, what % 7));
            case 4, 5 -> callDocket();
            case 6, 7 -> callLay();
            case 8 -> same("up(" + day + "," + small + ")", () -> bridge.up(day, small), () -> plain.up(day, small));
            case 9 -> same("planks(" + w + "," + day + ")", () -> bridge.planks(w, day), () -> plain.planks(w, day));
            case 10, 11 -> same("crosses(" + w + "," + day + ")", () -> bridge.crosses(w, day),
                    () -> plain.crosses(w, day));
            case 12 -> same("bar(" + w + "," + day + ")", () -> bridge.bar(w, day), () -> plain.bar(w, day));
            case 13 -> same("over(" + w + ")", () -> bridge.over(w), () -> plain.over(w));
            case 14 -> same("best(" + small + ")", () -> bridge.best(small), () -> plain.best(small));
            case 15 -> same("lays(" + small + ")", () -> bridge.lays(small), () -> plain.lays(small));
            case 16 -> same("suit(" + w + "," + day + ")", () -> bridge.suit(w, day), () -> plain.suit(w, day));
            case 17 -> same("settled(" + w + "," + day + ")", () -> bridge.settled(w, day),
                    () -> plain.settled(w, day));
            case 18 -> same("feud(" + w + "," + o + "," + day + "," + small + ")",
                    () -> bridge.feud(w, o, day, small), () -> plain.feud(w, o, day, small));
            default -> callSeen(w, day, flag);
        }
    }

    private void callSeen(int w, int day, boolean flag) {
        int seed = random.nextInt();
        int terms = below(6) == 0 ? below(50) - 4 : below(8);
        switch (below(8)) {
            case 0, 1 -> callSee(w, day);
            case 2 -> same("forget()", bridge::forget, plain::forget);
            case 3 -> same("explains()", bridge::explains, plain::explains);
            case 4 -> same("heard(" + day + "," + flag + ")", () -> bridge.heard(day, flag),
                    () -> plain.heard(day, flag));
            case 5 -> same("first()", bridge::first, plain::first);
            case 6 -> same("terms(" + w + "," + seed + "," + terms + ")", () -> bridge.terms(w, seed, terms),
                    () -> plain.terms(w, seed, terms));
            default -> callImage(flag);
        }
    }

    /** Mostly what is so by some docket, as else nothing would ever explain it. */
    private void callSee(int w, int day) {
        boolean so = Due.answer(() -> plain.crosses(w, day)) >= 0;
        boolean crossed = below(4) == 0 ? !so : so;
        same("see(" + w + "," + day + "," + crossed + ")", () -> bridge.see(w, day, crossed),
                () -> plain.see(w, day, crossed));
    }

    private void callImage(boolean keep) {
        if (keep) {
            log.append("image()\n");
            bridge.image();
            plain.image();
        } else {
            same("restore()", () -> bridge.restore() ? 1 : 0, () -> plain.restore() ? 1 : 0);
        }
    }

    private List<Integer> shuffled(int n) {
        List<Integer> row = new ArrayList<>();
        for (int i = 0; i < n; i++) {
            row.add(i);
        }
        Collections.shuffle(row, random);
        return row;
    }

    private long anyRow(int n, int base) {
        long row = 0;
        for (int figure : shuffled(n)) {
            row = row * base + figure;
        }
        return switch (below(12)) {
            case 0 -> row + 1L + below(60);
            case 1 -> row | 1L << below(64);
            case 2 -> random.nextLong();
            default -> row;
        };
    }

    private void callDocket() {
        int row = (int) anyRow(plain.count(1), 8);
        same("docket(" + row + ")", () -> bridge.docket(row) ? 1 : 0, () -> plain.docket(row) ? 1 : 0);
    }

    private void callLay() {
        long row = anyRow(plain.count(0), 16);
        same("lay(" + row + ")", () -> bridge.lay(row) ? 1 : 0, () -> plain.lay(row) ? 1 : 0);
    }
}
