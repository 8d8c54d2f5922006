/** Promises 5 to 9 and 13 to 15: start, accept, connected, feed, gone, take, waiting, connection. */
public final class ConnectionsTest {
    private static final Check check = new Check();

    public static void main(String[] args) {
        starts();
        numbersAreGiven();
        connects();
        goes();
        refusals();
        octetsComeInPieces();
        severalMessagesInOneFeed();
        lengthsBreakOff();
        whatWaitsStays();
        roomForWhatWaits();
        check.end("ConnectionsTest");
    }

    private static QuotaPeers withPeer(String name) {
        QuotaPeers x = new QuotaPeers();
        Check.peer(x, name, false);
        return x;
    }

    private static void starts() {
        QuotaPeers x = withPeer("a.b");
        check.due("start of none", x.start(0), -1);
        check.due("start of none", x.start(2), -1);
        check.due("start", x.start(1), 1);
        check.due("the state", x.state(1, 0), 1);
        check.due("the own one", x.state(1, 1), 1);
        check.due("asked for", x.connection(1, 0), 1);
        check.due("whose", x.connection(1, 1), 1);
        check.due("own", x.connection(1, 2), 1);
        check.due("start again", x.start(1), -3);
        check.due("nothing waits", x.waiting(1), 0);
    }

    private static void numbersAreGiven() {
        QuotaPeers x = withPeer("a.b");
        for (int c = 1; c <= 8; c++) {
            check.due("accept", x.accept(), c);
            check.due("open", x.connection(c, 0), 2);
            check.due("strange", x.connection(c, 1), 0);
            check.due("neither own nor came", x.connection(c, 2), 0);
        }
        check.due("a ninth", x.accept(), -4);
        check.due("start without room", x.start(1), -4);
        check.due("the state stays", x.state(1, 0), 0);
        check.due("gone", x.gone(5), 1);
        check.due("gone", x.gone(3), 1);
        check.due("the least is given", x.start(1), 3);
        check.due("start: -3 before -4", x.start(1), -3);
        check.due("the next", x.accept(), 5);
        x.gone(3);
        x.gone(1);
        check.due("the least of two", x.accept(), 1);

        // When the TIMER starts a PEER and there is no room, the TIMER is set all the same.
        QuotaPeers y = new QuotaPeers();
        Check.peer(y, "a.b", true);
        for (int c = 1; c <= 8; c++) {
            y.accept();
        }
        check.due("the timer", y.tick(30), 1);
        check.due("nothing is started", y.state(1, 0), 0);
        check.due("the timer is set", y.state(1, 5), 60);
        y.gone(8);
        check.due("the timer", y.tick(60), 1);
        check.due("started now", y.state(1, 1), 8);
    }

    private static void connects() {
        QuotaPeers x = withPeer("a.b");
        x.start(1);
        check.due("connected", x.connected(1, true), 1);
        check.due("open", x.connection(1, 0), 2);
        check.due("the state", x.state(1, 0), 2);
        check.due("the opening", Check.take(x, 1), Wire.message(1, Wire.REQUEST, Wire.OPENING, 0, 1, 1,
                Wire.origin("m.home", "home"), Wire.introduction()));
        check.due("already open", x.connected(1, true), -3);
        check.due("already open, refused", x.connected(1, false), -3);
        check.due("one that came", x.accept(), 2);
        check.due("one that came is open", x.connected(2, true), -3);
        x.gone(1);
        check.due("closed", x.connected(1, true), -1);
        x.start(1);
        check.due("refused", x.connected(1, false), 1);
        check.due("closed then", x.connection(1, 0), 0);
        check.due("no one's", x.connection(1, 1), 0);
        check.due("no one's", x.connection(1, 2), 0);
        check.due("the peer is closed", x.state(1, 0), 0);
        check.due("without an own one", x.state(1, 1), 0);
    }

    private static void goes() {
        QuotaPeers x = withPeer("a.b");
        check.due("gone, closed", x.gone(1), -1);
        check.due("gone, no number", x.gone(0), -1);
        check.due("gone, no number", x.gone(9), -1);
        x.start(1);
        check.due("one asked for is gone", x.gone(1), 1);
        check.due("as if refused", x.state(1, 0), 0);
        x.accept();
        x.feed(1, 0x01000014L << 32, 0, 0, 0, 7);
        check.due("octets of a message", x.connection(1, 3), 7);
        check.due("a strange one is gone", x.gone(1), 1);
        check.due("no message is there", x.connection(1, 3), 0);
        check.due("again", x.gone(1), -1);
        x.accept();
        Check.feed(x, 1, Wire.opening("a.b", 1, 1));
        check.due("open", x.state(1, 0), 5);
        check.due("the peer's is gone", x.gone(1), 1);
        check.due("closed", x.state(1, 0), 0);
        check.due("without a came one", x.state(1, 2), 0);
    }

    private static void refusals() {
        QuotaPeers x = withPeer("a.b");
        x.accept();
        x.start(1);
        check.due("feed, asked for", x.feed(2, 0, 0, 0, 0, 1), -1);
        check.due("feed, closed", x.feed(3, 0, 0, 0, 0, 1), -1);
        check.due("feed, closed: -1 before -2", x.feed(3, 0, 0, 0, 0, 0), -1);
        check.due("feed, no number", x.feed(0, 0, 0, 0, 0, 1), -1);
        check.due("feed, no number", x.feed(9, 0, 0, 0, 0, 1), -1);
        check.due("feed, none", x.feed(1, 0, 0, 0, 0, 0), -2);
        check.due("feed, too many", x.feed(1, 0, 0, 0, 0, 33), -2);
        check.due("feed, below", x.feed(1, 0, 0, 0, 0, -1), -2);
        check.due("nothing came", x.connection(1, 3), 0);
        check.due("take, no number", x.take(0), -1);
        check.due("take, no number", x.take(9), -1);
        check.due("take, none waits", x.take(1), -2);
        check.due("waiting, no number", x.waiting(0), -1);
        check.due("waiting, no number", x.waiting(9), -1);
        check.due("connection, no number", x.connection(9, 0), -1);
        check.due("connection: -1 before -2", x.connection(0, 9), -1);
        check.due("connection, no what", x.connection(1, 4), -2);
        check.due("connection, no what", x.connection(1, -1), -2);
        check.due("connected, no number", x.connected(0, true), -1);
        check.due("connected, no number", x.connected(9, false), -1);
        check.due("connected, closed", x.connected(3, false), -1);
    }

    private static void octetsComeInPieces() {
        QuotaPeers x = withPeer("a.b");
        x.accept();
        byte[] opening = Wire.opening("a.b", 7, 8);
        for (int i = 0; i < opening.length; i++) {
            check.due("octets that are there", x.connection(1, 3), i);
            int last = i == opening.length - 1 ? 1 : 0;
            check.due("one octet", x.feed(1, (opening[i] & 255L) << 56, -1, -1, -1, 1), last);
        }
        check.due("whole", x.connection(1, 3), 0);
        check.due("open", x.state(1, 0), 5);
        check.due("the answer", Check.take(x, 1), Wire.answer(0, Wire.OPENING, 7, 8, 2001, Wire.introduction()));
    }

    private static void severalMessagesInOneFeed() {
        QuotaPeers x = withPeer("a.b");
        x.accept();
        Check.feed(x, 1, Wire.opening("a.b", 7, 8));
        Check.drain(x, 1);
        // The last 8 octets of one, another of 20 (without all that it must have), and 4 of a third.
        byte[] first = Wire.watch("a.b", 1);
        byte[] second = Wire.request(Wire.WATCH, 2, 2);
        byte[] third = Wire.watch("a.b", 3);
        int begin = first.length - 8;
        check.due("the beginning", Check.feed(x, 1, java.util.Arrays.copyOf(first, begin)), 0);
        byte[] rest = Wire.join(java.util.Arrays.copyOfRange(first, begin, first.length), second,
                java.util.Arrays.copyOf(third, 4));
        check.due("two messages", Check.feed(x, 1, rest), 2);
        check.due("octets of the third", x.connection(1, 3), 4);
        check.due("the first answer", Check.take(x, 1), Wire.answer(0, Wire.WATCH, 1, 1, 2001, Wire.number(278, 1)));
        check.due("the second answer", Check.take(x, 1), Wire.answer(0, Wire.WATCH, 2, 2, 5005, Wire.failed(264)));
        check.due("no more", x.waiting(1), 0);

        // What comes behind the message that closes the connection is forgotten.
        QuotaPeers y = withPeer("a.b");
        y.accept();
        check.due("one of two", y.feed(1, 0x0100001480000118L, 0, 0x0000000101000014L, 0x8000011800000000L, 32), 1);
        check.due("closed", y.connection(1, 0), 0);
        check.due("nothing there", y.connection(1, 3), 0);
        check.due("nothing more is fed", y.feed(1, 0, 0, 0, 0, 1), -1);
    }

    private static void lengthsBreakOff() {
        int[] wrong = {0, 16, 19, 21, 22, 23, 599, 601, 604, 0xFFFFFF};
        for (int length : wrong) {
            QuotaPeers x = withPeer("a.b");
            x.accept();
            check.due("three octets", x.feed(1, (1L << 24 | length) << 32, 0, 0, 0, 3), 0);
            check.due("still open", x.connection(1, 0), 2);
            check.due("the fourth", x.feed(1, (length & 255L) << 56, 0, 0, 0, 1), 0);
            check.due("closed by its length " + length, x.connection(1, 0), 0);
            check.due("none is lost", x.lost(), 0);
        }
        int[] right = {20, 24, 600};
        for (int length : right) {
            QuotaPeers x = withPeer("a.b");
            x.accept();
            x.feed(1, (1L << 24 | length) << 32, 0, 0, 0, 4);
            check.due("open with length " + length, x.connection(1, 0), 2);
        }
        QuotaPeers x = withPeer("a.b");
        x.accept();
        Check.feed(x, 1, Wire.opening("a.b", 7, 8));
        check.due("breaks off", x.feed(1, 0x01000013L << 32, 0, 0, 0, 32), 0);
        check.due("as if it were gone", x.state(1, 0), 0);
        check.due("down", x.state(1, 3), 3);

        // 600 octets: an attribute that is not known fills it up.
        QuotaPeers y = withPeer("a.b");
        y.accept();
        byte[] head = Wire.join(Wire.origin("a.b", "r"), Wire.number(258, 4));
        byte[] filler = Wire.attribute(9999, 0, new byte[600 - 20 - head.length - 8]);
        byte[] longest = Wire.request(Wire.OPENING, 1, 1, head, filler);
        check.due("its length", longest.length, 600);
        check.due("the longest message", Check.feed(y, 1, longest), 1);
        check.due("it opens", y.state(1, 0), 5);
    }

    private static void whatWaitsStays() {
        QuotaPeers x = withPeer("a.b");
        x.accept();
        Check.feed(x, 1, Wire.opening("x.y", 7, 8));
        check.due("closed", x.connection(1, 0), 0);
        int waits = x.waiting(1);
        check.due("the answer waits", waits > 0 ? 1 : 0, 1);
        check.due("the first octet", x.take(1), 1);
        check.due("one fewer", x.waiting(1), waits - 1);
        check.due("given anew", x.accept(), 1);
        check.due("forgotten", x.waiting(1), 0);
        check.due("none", x.take(1), -2);
    }

    private static void roomForWhatWaits() {
        QuotaPeers x = withPeer("a.b");
        x.accept();
        Check.feed(x, 1, Wire.opening("a.b", 7, 8));
        Check.drain(x, 1);
        // The answer to a command that is not known has 60 octets.
        byte[] strange = Wire.request(999, 1, 1);
        for (int i = 0; i < 33; i++) {
            Check.feed(x, 1, strange);
        }
        check.due("33 answers", x.waiting(1), 1980);
        check.due("none lost", x.lost(), 0);
        Check.feed(x, 1, strange);
        check.due("2040 are too many", x.waiting(1), 1980);
        check.due("one lost", x.lost(), 1);
        for (int i = 0; i < 39; i++) {
            x.take(1);
        }
        Check.feed(x, 1, strange);
        check.due("2001 are too many", x.waiting(1), 1941);
        check.due("two lost", x.lost(), 2);
        x.take(1);
        Check.feed(x, 1, strange);
        check.due("2000 fit", x.waiting(1), 2000);
        check.due("no more lost", x.lost(), 2);
        for (int i = 0; i < 20; i++) {
            x.take(1);
        }
        for (int i = 0; i < 33; i++) {
            check.due("answer " + i, Check.take(x, 1), Wire.answer(Wire.FAULT, 999, 1, 1, 3001));
        }
        check.due("all taken", x.waiting(1), 0);
    }
}
