import java.nio.ByteBuffer;
import java.nio.charset.StandardCharsets;
import java.util.Arrays;

public final class Example {
    public static void main(String[] args) {
        String text = "nodes 4;\n"
            + "link 0 1 1 10; link 1 3 1 10;\n"     // links 0 and 1: the short way from 0 to 3
            + "link 0 2 2 10; link 2 3 2 10;\n"     // links 2 and 3: the long one
            + "tunnel 0 3 6 7 7;\n"                 // tunnel 0 asks for 6 and gives way to all others
            + "tunnel 0 3 6 2 2;\n";                // tunnel 1 asks for 6, too, and is stronger

        // Twenty bytes a call, of each number the highest byte first; what the text leaves is filled up with 0.
        TunnelPlan x = new TunnelPlan();
        ByteBuffer bytes = ByteBuffer.wrap(Arrays.copyOf(text.getBytes(StandardCharsets.US_ASCII), 700));
        while (bytes.position() < text.length()) {
            x.feed(bytes.getInt(), bytes.getInt(), bytes.getInt(), bytes.getInt(), bytes.getInt());
        }
        show("x.network(text.length())", x.network(text.length()));

        show("x.setUp(0)", x.setUp(0));
        show("x.way(0, 0)", x.way(0, 0));
        show("x.way(0, 1)", x.way(0, 1));
        show("x.pool(0, 7)", x.pool(0, 7));
        show("x.pool(0, 2)", x.pool(0, 2));

        show("x.pushes(1, 0)", x.pushes(1, 0));
        show("x.setUp(1)", x.setUp(1));
        show("x.way(1, 0)", x.way(1, 0));
        show("x.way(0, 0)", x.way(0, 0));
        show("x.tunnel(0, 10)", x.tunnel(0, 10));

        show("x.count(9)", x.count(9));
        show("x.fail(1)", x.fail(1));
        show("x.count(3)", x.count(3));
        show("x.undo()", x.undo());
        show("x.count(3)", x.count(3));

        show("x.setUp(1)", x.setUp(1));
        show("x.count(15)", x.count(15));
        try {
            show("x.setUp(2)", x.setUp(2));
        } catch (java.util.NoSuchElementException e) {
            System.out.println("x.setUp(2) throws NoSuchElementException");
        }
    }

    private static void show(String call, int answer) {
        System.out.println(call + " = " + answer);
    }
}
