/** Nodes in the states with which tests begin, in few calls: an object is promised for 512 of them. */
final class Scene {
    /** Before the node's name "m.home", and behind it. */
    static final String EARLY = "a.b";
    static final String LATE = "z";

    private Scene() {
    }

    static QuotaPeers withPeer(String name) {
        QuotaPeers x = new QuotaPeers();
        Check.peer(x, name, false);
        return x;
    }

    /** A CONNECTION comes, with an OPENING by that name: its number. */
    static int come(QuotaPeers x, String name) {
        int c = x.accept();
        Check.feed(x, c, Wire.opening(name, 70 + c, 80 + c));
        return c;
    }

    /** The ANSWER to what come() tells. */
    static byte[] welcome(int c) {
        return Wire.answer(0, Wire.OPENING, 70 + c, 80 + c, 2001, Wire.introduction());
    }

    /** Its PEER is OPEN by the CONNECTION 1, which came. */
    static QuotaPeers open() {
        return in(5, EARLY);
    }

    /** As open(), with ACCOUNT 120 of that balance. */
    static QuotaPeers withAccount(long balance) {
        QuotaPeers x = open();
        x.account(120, balance);
        return x;
    }

    /**
     * Its PEER is in that STATE, in which it came at 0 seconds; all that waited is taken. The OWN CONNECTION is 1; the CAME one is 2 beside an
     * OWN one, else 1. The only REQUEST of the node has the HOP 1. CHOOSING (4) asks for a name behind the node's.
     */
    static QuotaPeers in(int state, String name) {
        QuotaPeers x = withPeer(name);
        if (state == 5 || state == 7) {
            come(x, name);
        } else if (state != 0) {
            x.start(1);
        }
        if (state == 2 || state == 6) {
            x.connected(1, true);
        }
        if (state == 3 || state == 4) {
            come(x, name);
        }
        if (state == 4) {
            x.connected(1, true);
        }
        if (state == 6) {
            Check.feed(x, 1, Wire.reply(Wire.OPENING, 1, 2001, name));
        }
        if (state == 7) {
            x.stop(1, 0);
        }
        Check.drain(x, 1);
        Check.drain(x, 2);
        return x;
    }

    /** PEERS "a", "b", "c", "d" up to that number, each OPEN by the CONNECTION of its number, its ANSWER not taken. */
    static QuotaPeers openPeers(int count) {
        QuotaPeers x = new QuotaPeers();
        for (int i = 0; i < count; i++) {
            Check.peer(x, name(i + 1), false);
        }
        for (int i = 0; i < count; i++) {
            come(x, name(i + 1));
        }
        return x;
    }

    static String name(int peer) {
        return String.valueOf((char) ('a' + peer - 1));
    }

    /** A SESSION "s" of ACCOUNT 120, by a CREDIT on that CONNECTION with HOST "c.d" and REALM "e", its ANSWER not taken. */
    static void begin(QuotaPeers x, int connection) {
        x.account(120, 5000);
        Check.feed(x, connection, Wire.credit("s", 50, 1, 0, Wire.subscriber("120")));
    }
}
