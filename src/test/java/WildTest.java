import java.util.Random;

/** Arguments from everywhere, in states of all sorts: a call answers, or throws what the document names for it. */
public final class WildTest {
    private static final int[] EDGES = {Integer.MIN_VALUE, Integer.MIN_VALUE + 1, -1000, -2, -1, 0, 1, 2, 3, 4, 5, 6, 7, 9,
        10, 16, 32, 62, 63, 64, 99, 100, 101, 255, 500, 501, 5040, 1 << 20, 1 << 30, Integer.MAX_VALUE};
    private static final String[] TEXTS = {"", "book 1;", "plain 0 0 0 0 63;", "flood 63;plain 0 0 0 63 63;judge 1 6 20 0 0;",
        "book 20;".repeat(10) + "case 0 9 0 1 2 3 4 5 6 7 8 9;".repeat(7) + "cart 1 6 20 63 63;",
        "book 1;".repeat(10) + "case 1 9 9;".repeat(7) + "farmer 0 6 20 0 63;".repeat(5) + "wear 9;fee 99;",
        "book 7;".repeat(7) + "case 0 9 0;case 0 9 1;case 0 9 2;case 0 9 3;case 0 9 4;case 0 9 5;case 0 9 6;plain 0 1 7 3 63;",
        "book 3;book 4;case 0 1 0;case 1 2 1;judge 0 1 2 0 5;farmer 1 0 4 0 9;"};

    private final Random random = new Random(5);
    private final Due due = new Due();

    public static void main(String[] args) {
        WildTest test = new WildTest();
        for (int run = 0; run < 400; run++) {
            test.run(run);
        }
        test.due.end();
    }

    private void run(int run) {
        BookBridge b = new BookBridge();
        for (int i = 0; i < 100; i++) {
            if (i % 50 == 1) {
                Due.river(b, TEXTS[run % TEXTS.length]);
            }
            int call = random.nextInt(26);
            long answer = Due.answer(() -> call(b, call));
            due.yes("call " + call + " of run " + run + " may not throw " + Due.show(answer), mayAnswer(call, answer));
        }
    }

    private static boolean mayAnswer(int call, long answer) {
        if (answer == Due.ILLEGAL) {
            return call == 1 || call == 18 || call == 24;
        }
        boolean never = call < 3 || call == 7 || call == 8 || call == 20 || call == 21 || call == 25;
        return answer != Due.NO_SUCH || !never;
    }

    private int wild() {
        int pick = random.nextInt(20);
        return pick == 0 ? random.nextInt() : pick < 12 ? random.nextInt(8) : EDGES[random.nextInt(EDGES.length)];
    }

    private long call(BookBridge b, int call) {
        return switch (call) {
            case 0 -> b.feed(wild(), wild(), wild(), wild(), wild());
            case 1 -> b.river(wild());
            case 2 -> b.fault();
            case 3 -> b.count(wild());
            case 4 -> b.book(wild(), wild());
            case 5 -> b.hearing(wild(), wild());
            case 6 -> b.walker(wild(), wild());
            case 7 -> b.docket(wild() * wild()) ? 1 : 0;
            case 8 -> b.lay((long) wild() << random.nextInt(64) ^ wild()) ? 1 : 0;
            case 9 -> b.up(wild(), wild());
            case 10 -> b.planks(wild(), wild());
            case 11 -> b.crosses(wild(), wild());
            case 12 -> b.bar(wild(), wild());
            case 13 -> b.over(wild());
            case 14 -> b.best(wild());
            case 15 -> b.lays(wild());
            default -> callLater(b, call);
        };
    }

    private long callLater(BookBridge b, int call) {
        return switch (call) {
            case 16 -> b.suit(wild(), wild());
            case 17 -> b.settled(wild(), wild());
            case 18 -> b.feud(wild(), wild(), wild(), wild());
            case 19 -> b.see(wild(), wild(), random.nextBoolean());
            case 20 -> b.forget();
            case 21 -> b.explains();
            case 22 -> b.heard(wild(), random.nextBoolean());
            case 23 -> b.first();
            case 24 -> b.terms(wild(), wild(), wild());
            default -> keepOrRestore(b);
        };
    }

    private long keepOrRestore(BookBridge b) {
        if (random.nextBoolean()) {
            b.image();
            return 0;
        }
        return b.restore() ? 1 : 0;
    }
}
