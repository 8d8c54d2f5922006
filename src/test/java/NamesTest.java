/** Promises 1 to 4 and 12: a new object, sign, own, peer, clock. */
public final class NamesTest {
    private static final Check check = new Check();

    public static void main(String[] args) {
        newObject();
        signs();
        edgesOfNames();
        owns();
        peersAreMade();
        check.end("NamesTest");
    }

    private static void newObject() {
        QuotaPeers x = new QuotaPeers();
        check.due("clock of a new one", x.clock(), 0);
        check.due("sessions of a new one", x.sessions(), 0);
        check.due("kept of a new one", x.kept(), 0);
        check.due("lost of a new one", x.lost(), 0);
        check.due("no peer", x.state(1, 0), -1);
        check.due("no account", x.balance(1, 0), -1);
        check.due("no session", x.session(0, 0), -1);
        check.due("no ask", x.asked(0, 0), -1);
        check.due("no grant", x.granted(0), -1);
        for (int c = 1; c <= 8; c++) {
            for (int what = 0; what <= 3; what++) {
                check.due("connection of a new one", x.connection(c, what), 0);
            }
            check.due("waiting of a new one", x.waiting(c), 0);
            check.due("take of a new one", x.take(c), -2);
        }
    }

    private static void signs() {
        QuotaPeers x = new QuotaPeers();
        check.due("four octets", x.sign(0x61626364), 4);
        check.due("one between zeros", x.sign(0x00007A00), 5);
        check.due("zeros alone", x.sign(0), 5);
        check.due("digits, dot, dash", x.sign(0x30392E2D), 9);
        check.due("a capital", x.sign(0x61620041), -2);
        check.due("before a", x.sign(0x60), -2);
        check.due("behind z", x.sign(0x7B), -2);
        check.due("before 0 and not .", x.sign(0x2F), -2);
        check.due("behind 9", x.sign(0x3A), -2);
        check.due("before -", x.sign(0x2C), -2);
        check.due("above 127", x.sign(0xE1), -2);
        check.due("nothing changed", x.sign(0), 9);
        check.due("emptied", x.sign(-1), 0);
        check.due("empty", x.sign(0), 0);
    }

    private static void edgesOfNames() {
        QuotaPeers x = new QuotaPeers();
        check.due("38 octets", Check.sign(x, "a".repeat(38)), 38);
        check.due("41 octets", x.sign(0x616161), -4);
        check.due("-2 before -4", x.sign(0x616141), -2);
        check.due("40 octets", x.sign(0x616100), 40);
        check.due("zeros still fit", x.sign(0), 40);
        check.due("one too many", x.sign(0x61), -4);
        check.due("the peer", x.peer(false), 1);
        check.due("the name is empty then", x.sign(0), 0);
    }

    private static void owns() {
        QuotaPeers x = new QuotaPeers();
        check.due("own without a name", x.own(), -2);
        Check.sign(x, "node.x");
        check.due("own", x.own(), 6);
        check.due("own again: the name was taken", x.own(), -2);
        Check.sign(x, "m.home");
        check.due("the first host is free now", x.peer(false), 1);
        Check.sign(x, "other");
        check.due("own with a peer", x.own(), -3);
        check.due("a refused own keeps the name", x.sign(0), 5);
        x.sign(-1);
        check.due("own: -2 before -3", x.own(), -2);

        // The host stands in what is sent.
        check.due("started", x.start(1), 1);
        check.due("connected", x.connected(1, true), 1);
        check.due("the opening", Check.take(x, 1), Wire.message(1, Wire.REQUEST, Wire.OPENING, 0, 1, 1,
                Wire.origin("node.x", "home"), Wire.introduction()));
    }

    private static void peersAreMade() {
        QuotaPeers x = new QuotaPeers();
        check.due("peer without a name", x.peer(true), -2);
        check.due("the node's own name", Check.peer(x, "m.home", true), -3);
        check.due("the name stays", x.sign(0), 6);
        check.due("peer 1", Check.peer(x, "a", false), 1);
        check.due("the same name", Check.peer(x, "a", false), -3);
        check.due("peer 2, a longer name", Check.peer(x, "aa", false), 2);
        x.tick(7);
        check.due("peer 3", Check.peer(x, "b", true), 3);
        check.due("peer 4", Check.peer(x, "c", false), 4);
        check.due("a fifth with a known name", Check.peer(x, "b", false), -3);
        check.due("a fifth", Check.peer(x, "d", false), -4);
        check.due("its status", x.state(3, 3), 0);
        check.due("its state", x.state(3, 0), 0);
        check.due("its timer", x.state(3, 5), 37);
        check.due("its own connection", x.state(3, 1), 0);
        check.due("the clock", x.clock(), 7);
        x.tick(37);
        check.due("one that the node starts", x.state(3, 0), 1);
        check.due("one that it does not", x.state(4, 0), 0);
    }
}
