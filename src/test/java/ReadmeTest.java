import java.io.IOException;
import java.nio.file.Files;
import java.nio.file.Path;

/** The example of README.md stands here line by line, so that what it says of the answers is tried. */
public final class ReadmeTest {
    private static final Check check = new Check();
    private static final byte[] OPENING = Wire.opening("a.b", 7, 7);
    private static final byte[] CREDIT = Wire.request(Wire.CREDIT, 8, 8, Wire.text(263, "s1"), Wire.origin("a.b", "r"),
            Wire.number(416, 1), Wire.number(415, 0), Wire.subscriber("120"), Wire.wanted(300));

    public static void main(String[] args) throws IOException {
        example();
        exampleStandsHere();
        check.end("ReadmeTest");
    }

    private static void example() {
        QuotaPeers node = new QuotaPeers();               // its HOST is "m.home", it is 0 seconds
        int octets = node.sign(0x612E6200);               // 3: the NAME at hand is "a.b"
        int peer = node.peer(false);                      // 1: a PEER with this HOST; the node does not start it by itself
        int accounts = node.account(120, 5000);           // 1: an ACCOUNT with its BALANCE
        check.due("octets", octets, 3);
        check.due("peer", peer, 1);
        check.due("accounts", accounts, 1);

        int line = node.accept();                         // 1: a CONNECTION came
        int opened = feedAll(node, line, OPENING);        // 1: one MESSAGE was done, which told whose CONNECTION it is
        int state = node.state(peer, 0);                  // 5: OPEN by the CAME one
        byte[] answer = takeAll(node, line);              // 112 octets: the ANSWER, with RESULT 2001
        check.due("line", line, 1);
        check.due("opened", opened, 1);
        check.due("state", state, 5);
        check.due("octets of the answer", answer.length, 112);
        check.due("answer", answer, Wire.answer(0, Wire.OPENING, 7, 7, 2001, Wire.introduction()));

        int credits = feedAll(node, line, CREDIT);        // 1: a SESSION begins, with WANTED 300 of ACCOUNT 120
        long grant = node.granted(0);                     // 300
        long reserved = node.balance(120, 1);             // 300
        int again = feedAll(node, line, CREDIT);          // 1: what comes again is answered as it was before
        int sessions = node.sessions();                   // 1: and nothing else is done
        check.due("credits", credits, 1);
        check.due("grant", grant, 300);
        check.due("reserved", reserved, 300);
        check.due("again", again, 1);
        check.due("sessions", sessions, 1);
        check.due("the same answer", Check.take(node, line), Check.take(node, line));

        int ask = node.ask(0);                            // 0: an ASK about this SESSION goes to the PEER
        int due = node.tick(30);                          // 1: it is 30 seconds, a TIMER was due: a WATCH goes to the PEER
        int silent = node.tick(90);                       // 2: no ANSWER came: SILENT at 60, CLOSED at 90
        int result = node.asked(ask, 0);                  // 3002: there was no other PEER for the ASK
        int refused = node.feed(line, 1, 0, 0, 0, 8);     // -1: there is no such CONNECTION that is OPEN
        check.due("ask", ask, 0);
        check.due("due", due, 1);
        check.due("silent", silent, 2);
        check.due("result", result, 3002);
        check.due("refused", refused, -1);
    }

    static int feedAll(QuotaPeers node, int line, byte[] octets) {
        int messages = 0;
        for (int from = 0; from < octets.length; from += 32) {
            int n = Math.min(32, octets.length - from);
            long[] parts = new long[4];
            for (int i = 0; i < n; i++) {
                parts[i / 8] |= (octets[from + i] & 255L) << (56 - 8 * (i % 8));
            }
            messages += Math.max(0, node.feed(line, parts[0], parts[1], parts[2], parts[3], n));
        }
        return messages;
    }

    static byte[] takeAll(QuotaPeers node, int line) {
        byte[] octets = new byte[node.waiting(line)];
        for (int i = 0; i < octets.length; i++) {
            octets[i] = (byte) node.take(line);
        }
        return octets;
    }

    /** Each line of code in README.md is found in this file, behind the one before it. */
    private static void exampleStandsHere() throws IOException {
        String here = Files.readString(Path.of("src/test/java/ReadmeTest.java"));
        boolean code = false;
        int at = 0;
        int lines = 0;
        for (String line : Files.readString(Path.of("README.md")).split("\n")) {
            if (line.startsWith("```")) {
                code = !code;
            } else if (code && !line.isBlank()) {
                int found = here.indexOf(line.trim(), at);
                check.due("stands in the test: " + line, found < 0 ? 1 : 0, 0);
                at = Math.max(at, found);
                lines++;
            }
        }
        check.due("lines of code: " + lines, lines > 20 ? 0 : 1, 0);
    }
}
