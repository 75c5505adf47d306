import java.lang.management.ManagementFactory;

/** What calls make: nothing, but for exceptions and, once for so many CASES, the list of DOCKETS. */
public final class RoomTest {
    private static final String FULL = "book 9;book 8;book 7;book 6;book 5;book 4;book 9;"
            + "case 0 9 0 1;case 1 8 2 3;case 0 7 4;case 1 6 5 6;case 0 5 1 2;case 1 4 3;case 0 3 0 6;"
            + "plain 0 1 4 0 40;farmer 0 1 5 3 50;cart 0 2 3 5 30;judge 1 2 1 0 63;plain 1 3 7 20 60;"
            + "flood 1;flood 9;flood 30;fee 9;wear 1;";

    private final Due due = new Due();
    private final com.sun.management.ThreadMXBean threads =
            (com.sun.management.ThreadMXBean) ManagementFactory.getThreadMXBean();
    private long before;

    public static void main(String[] args) {
        RoomTest test = new RoomTest();
        BookBridge bridge = Due.bridge(FULL);
        byte[] text = Due.padded(FULL);
        test.callAll(bridge, text, 2);
        test.start();
        test.callAll(bridge, text, 6);
        long calls = test.made();
        test.start();
        BookBridge another = new BookBridge();
        long one = test.made();
        test.start();
        Due.river(another, FULL);
        another.explains();
        long list = test.made();
        // A little is the measure's own.
        test.due.yes("calls make nothing: " + calls + " bytes", calls < 2000);
        test.due.yes("a new object is small: " + one + " bytes", one < 16000);
        test.due.yes("the list of dockets is made once: " + list + " bytes", list < 160000);
        System.out.println("bytes made: " + calls + " by calls, " + one + " by a new object, " + list + " by its list");
        test.due.end();
    }

    private void start() {
        before = threads.getThreadAllocatedBytes(Thread.currentThread().getId());
    }

    private long made() {
        return threads.getThreadAllocatedBytes(Thread.currentThread().getId()) - before;
    }

    private void callAll(BookBridge b, byte[] text, int times) {
        for (int i = 0; i < times; i++) {
            for (int j = 0; j < text.length; j += 20) {
                b.feed(Due.number(text, j), Due.number(text, j + 4), Due.number(text, j + 8),
                        Due.number(text, j + 12), Due.number(text, j + 16));
            }
            b.river(i == 1 ? 20 : text.length);
            b.river(0);
            for (int j = 0; j < text.length; j += 20) {
                b.feed(Due.number(text, j), Due.number(text, j + 4), Due.number(text, j + 8),
                        Due.number(text, j + 12), Due.number(text, j + 16));
            }
            b.river(text.length);
            callRest(b, i);
        }
    }

    private void callRest(BookBridge b, int i) {
        b.image();
        b.docket(Due.row8(6, 5, 4, 3, 2, 1, 0));
        b.docket(1);
        b.lay(Due.row16(6, 0, 5, 1, 4, 2, 3));
        for (int j = 0; j < 12; j++) {
            b.count(j);
            b.see(j % 5, 5 * j, b.crosses(j % 5, 5 * j) >= 0);
            b.planks(j % 5, j);
            b.bar(j % 5, j);
            b.suit(j % 5, j);
            b.settled(j % 5, j);
            b.feud(j % 5, (j + 1) % 5, j, j % 2);
            b.up(j, j % 2);
            b.book(j % 7, j % 3);
            b.hearing(j % 7, j % 5);
            b.walker(j % 5, j % 6);
        }
        b.over(i % 5);
        b.best(i % 3);
        b.lays(i % 3);
        b.explains();
        b.heard(i, true);
        b.terms(i % 5, i, 40);
        b.forget();
        b.restore();
        b.fault();
    }
}
