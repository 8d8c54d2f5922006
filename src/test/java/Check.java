import java.io.IOException;
import java.nio.file.Files;
import java.nio.file.Path;
import java.util.Arrays;

/** Counts what a test finds, and speaks with a node in whole messages. */
final class Check {
    private static final Path DOCUMENT = Path.of("../shared/DOC.md");
    private int done;
    private int wrong;
    private String sentence = "";
    private String document;

    /** What follows is the test of this sentence of the document, or part of one, word for word. */
    void of(String words) {
        sentence = "[" + words + "] ";
        due("stands in the document", document().isEmpty() || document().contains(words) ? 0 : 1, 0);
    }

    /** The document in one line, or nothing where it is not at hand: the tests need none. */
    private String document() {
        if (document == null) {
            try {
                document = Files.isReadable(DOCUMENT) ? Files.readString(DOCUMENT).replaceAll("\\s+", " ") : "";
            } catch (IOException e) {
                document = "";
            }
        }
        return document;
    }

    void due(String what, long got, long want) {
        done++;
        if (got != want) {
            tell(what + " answered " + got + ", due is " + want);
        }
    }

    void due(String what, byte[] got, byte[] want) {
        done++;
        if (!Arrays.equals(got, want)) {
            tell(what + " answered\n  " + Wire.show(got) + ", due is\n  " + Wire.show(want));
        }
    }

    /** The first few tell enough. */
    private void tell(String text) {
        wrong++;
        if (wrong <= 20) {
            System.out.println(sentence + text);
        }
    }

    void end(String test) {
        System.out.println(test + ": " + done + " checks, " + wrong + " wrong");
        if (wrong != 0 || done == 0) {
            System.exit(1);
        }
    }

    /** All of them are fed, even if the connection is closed in the meantime: how many messages were done. */
    static int feed(QuotaPeers node, int connection, byte[] octets) {
        int messages = 0;
        for (int from = 0; from < octets.length; from += 32) {
            int n = Math.min(32, octets.length - from);
            long[] parts = new long[4];
            for (int i = 0; i < n; i++) {
                parts[i / 8] |= (octets[from + i] & 255L) << (56 - 8 * (i % 8));
            }
            messages += Math.max(0, node.feed(connection, parts[0], parts[1], parts[2], parts[3], n));
        }
        return messages;
    }

    /** The next whole message that waits, or as many octets as there are. */
    static byte[] take(QuotaPeers node, int connection) {
        byte[] octets = new byte[Math.max(0, node.waiting(connection))];
        int length = octets.length;
        int i = 0;
        while (i < length) {
            octets[i] = (byte) node.take(connection);
            i++;
            if (i == 4) {
                length = Math.min(octets.length, (octets[1] & 255) << 16 | (octets[2] & 255) << 8 | octets[3] & 255);
            }
        }
        return Arrays.copyOf(octets, length);
    }

    static void drain(QuotaPeers node, int connection) {
        for (int n = node.waiting(connection); n > 0; n--) {
            node.take(connection);
        }
    }

    static int sign(QuotaPeers node, String name) {
        int count = node.sign(-1);
        for (int i = 0; i < name.length(); i += 4) {
            int four = 0;
            for (int k = i; k < Math.min(i + 4, name.length()); k++) {
                four = four << 8 | name.charAt(k);
            }
            count = node.sign(four);
        }
        return count;
    }

    static int peer(QuotaPeers node, String name, boolean starts) {
        sign(node, name);
        return node.peer(starts);
    }

    /** All that can be asked of a node but for its ACCOUNTS, whose numbers it does not tell. */
    static String show(QuotaPeers x) {
        StringBuilder all = new StringBuilder();
        all.append(x.clock()).append(' ').append(x.kept()).append(' ').append(x.lost()).append(' ').append(x.sign(0));
        for (int c = 1; c <= 8; c++) {
            all.append("\nc").append(x.waiting(c));
            for (int what = 0; what <= 3; what++) {
                all.append(' ').append(x.connection(c, what));
            }
        }
        for (int p = 1; p <= 4; p++) {
            all.append("\np");
            for (int what = 0; what <= 7; what++) {
                all.append(' ').append(x.state(p, what));
            }
        }
        for (int k = 0; k < x.sessions(); k++) {
            all.append("\ns").append(x.granted(k));
            for (int what = 0; what <= 3; what++) {
                all.append(' ').append(x.session(k, what));
            }
        }
        for (int i = 0; x.asked(i, 1) > 0; i++) {
            all.append("\na");
            for (int what = 0; what <= 4; what++) {
                all.append(' ').append(x.asked(i, what));
            }
        }
        return all.toString();
    }
}
