import java.nio.charset.StandardCharsets;
import java.util.NoSuchElementException;

/** What the tests share: feeding a text, telling an answer or exception apart, counting what is wrong. */
final class Due {
    /** Answers of calls that threw; no call answers these. */
    static final long NO_SUCH = Long.MIN_VALUE + 1;
    static final long ILLEGAL = Long.MIN_VALUE + 2;

    private int wrong;
    private int looked;
    private String about = "";

    interface Call {
        long answer();
    }

    /** Any exception but the two that the document names is let through, and ends the test. */
    static long answer(Call call) {
        try {
            return call.answer();
        } catch (NoSuchElementException e) {
            return NO_SUCH;
        } catch (IllegalArgumentException e) {
            return ILLEGAL;
        }
    }

    void is(String what, long want, Call call) {
        looked++;
        long got = answer(call);
        if (got != want) {
            wrong++;
            System.out.println(about + what + " answered " + show(got) + ", due is " + show(want));
        }
    }

    /** What stands ahead of all that is told from here on. */
    void about(String text) {
        about = text;
    }

    void yes(String what, boolean holds) {
        is(what, 1, () -> holds ? 1 : 0);
    }

    static String show(long answer) {
        return answer == NO_SUCH ? "NoSuchElementException"
                : answer == ILLEGAL ? "IllegalArgumentException" : Long.toString(answer);
    }

    void end() {
        System.out.println(looked + " answers looked at, " + wrong + " wrong");
        if (wrong != 0) {
            System.exit(1);
        }
    }

    int wrong() {
        return wrong;
    }

    static byte[] padded(String text) {
        byte[] bytes = new byte[(text.length() + 19) / 20 * 20];
        java.util.Arrays.fill(bytes, (byte) ' ');
        byte[] told = text.getBytes(StandardCharsets.ISO_8859_1);
        System.arraycopy(told, 0, bytes, 0, told.length);
        return bytes;
    }

    static int number(byte[] bytes, int at) {
        return bytes[at] << 24 | (bytes[at + 1] & 255) << 16 | (bytes[at + 2] & 255) << 8 | bytes[at + 3] & 255;
    }

    static void feed(BookBridge bridge, String text) {
        byte[] bytes = padded(text);
        for (int i = 0; i < bytes.length; i += 20) {
            bridge.feed(number(bytes, i), number(bytes, i + 4), number(bytes, i + 8), number(bytes, i + 12),
                    number(bytes, i + 16));
        }
    }

    /** A river whose FAULT is marked by a ^ ahead of its TOKEN; without a mark there is none. */
    void fault(int code, String marked) {
        BookBridge bridge = new BookBridge();
        int mark = marked.indexOf('^');
        String text = marked.replace("^", "");
        String shown = marked.replace('\n', '~');
        is("river of '" + shown + "'", code, () -> river(bridge, text));
        is("place of '" + shown + "'", mark, bridge::fault);
        is("STATUS 0 of '" + shown + "'", code == 0 ? 0 : 1, () -> bridge.count(9));
    }

    static int river(BookBridge bridge, String text) {
        feed(bridge, text);
        return bridge.river(text.length());
    }

    static BookBridge bridge(String text) {
        BookBridge bridge = new BookBridge();
        int fault = river(bridge, text);
        if (fault != 0) {
            throw new AssertionError("FAULT " + fault + " at " + bridge.fault() + " of " + text);
        }
        return bridge;
    }

    static int row8(int... cases) {
        int row = 0;
        for (int i = cases.length - 1; i >= 0; i--) {
            row = row * 8 + cases[i];
        }
        return row;
    }

    static long row16(int... books) {
        long row = 0;
        for (int i = books.length - 1; i >= 0; i--) {
            row = row * 16 + books[i];
        }
        return row;
    }
}
