import java.nio.charset.StandardCharsets;

/** Brings a text on the tape. */
final class Tape {
    private Tape() {
    }

    static int[] numbers(String text) {
        byte[] bytes = java.util.Arrays.copyOf(text.getBytes(StandardCharsets.ISO_8859_1), (text.length() + 19) / 20 * 20);
        int[] numbers = new int[bytes.length / 4];
        java.nio.ByteBuffer.wrap(bytes).asIntBuffer().get(numbers);
        return numbers;
    }

    /** Feeds the text, and bytes 0 up to the next twenty: what the last feed answered. */
    static int feed(TunnelPlan x, String text) {
        int[] n = numbers(text);
        int last = 0;
        for (int i = 0; i < n.length; i += 5) {
            last = x.feed(n[i], n[i + 1], n[i + 2], n[i + 3], n[i + 4]);
        }
        return last;
    }

    static int load(TunnelPlan x, String text) {
        feed(x, text);
        return x.network(text.length());
    }

    static TunnelPlan plan(String text) {
        TunnelPlan x = new TunnelPlan();
        int fault = load(x, text);
        if (fault != 0) {
            throw new IllegalStateException("fault " + fault + " at " + x.fault() + " of " + text);
        }
        return x;
    }
}
