import java.util.Arrays;

/** Terms, CONNECTIONS: each sentence that names a boundary has a test of its own, at it and on both sides. */
public final class EdgesOfConnectionsTest {
    private static final Check check = new Check();
    private static final String EARLY = Scene.EARLY;
    private static final String LATE = Scene.LATE;

    public static void main(String[] args) {
        eightOfThem();
        lastOctet();
        lengths();
        lengthsOfLaterOnes();
        goneForItsPeer();
        twoThousand();
        eachMessageByItself();
        nodesOwnWithoutRoom();
        takenWhenClosed();
        givenAnew();
        strangeTillAnOpening();
        noSuchPeer();
        wrongOnStrange();
        anyOtherOnStrange();
        noOnesAnyMore();
        closedByAMessage();
        auths();
        authInAnyState();
        check.end("EdgesOfConnectionsTest");
    }

    private static void state(QuotaPeers x, String when, int state, int own, int came) {
        check.due(when + ": state", x.state(1, 0), state);
        check.due(when + ": own", x.state(1, 1), own);
        check.due(when + ": came", x.state(1, 2), came);
    }

    private static void eightOfThem() {
        check.of("A CONNECTION (1 .. 8) is ASKED for by the NODE, OPEN, or CLOSED");
        QuotaPeers x = Scene.withPeer(EARLY);
        check.due("closed", x.connection(1, 0), 0);
        check.due("asked for", x.start(1), 1);
        check.due("asked for", x.connection(1, 0), 1);
        for (int c = 2; c <= 8; c++) {
            check.due("accept", x.accept(), c);
            check.due("open", x.connection(c, 0), 2);
        }
        check.due("a ninth", x.accept(), -4);
        check.due("number 0", x.connection(0, 0), -1);
        check.due("number 9", x.connection(9, 0), -1);
        check.due("the eighth is gone", x.gone(8), 1);
        check.due("the eighth again", x.accept(), 8);
        check.due("a ninth", x.accept(), -4);
    }

    private static void lastOctet() {
        check.of("they are MESSAGES one behind the other, each done when its last octet is there");
        byte[] head = Wire.join(Wire.origin(EARLY, "r"), Wire.number(258, 4));
        byte[] shortest = Wire.request(Wire.WATCH, 1, 1);
        byte[] longest = Wire.request(Wire.OPENING, 1, 1, head, Wire.attribute(9999, 0, new byte[600 - 28 - head.length]));
        byte[][] messages = {shortest, longest};
        for (byte[] message : messages) {
            QuotaPeers x = Scene.open();
            int last = message.length - 1;
            check.due("all but the last", Check.feed(x, 1, Arrays.copyOf(message, last)), 0);
            check.due("octets there", x.connection(1, 3), last);
            check.due("no answer yet", x.waiting(1), 0);
            check.due("the last", Check.feed(x, 1, Arrays.copyOfRange(message, last, last + 1)), 1);
            check.due("none there", x.connection(1, 3), 0);
            check.due("an answer", x.waiting(1) > 0 ? 1 : 0, 1);
        }
        QuotaPeers x = Scene.open();
        byte[] three = Wire.join(shortest, shortest, shortest);
        check.due("one and 12 octets", Check.feed(x, 1, Arrays.copyOf(three, 32)), 1);
        check.due("12 there", x.connection(1, 3), 12);
        check.due("the second and 19", Check.feed(x, 1, Arrays.copyOfRange(three, 32, 59)), 1);
        check.due("19 there", x.connection(1, 3), 19);
        check.due("the third", Check.feed(x, 1, Arrays.copyOfRange(three, 59, 60)), 1);
        check.due("none there", x.connection(1, 3), 0);
    }

    private static boolean fits(int length) {
        return length >= 20 && length <= 600 && length % 4 == 0;
    }

    private static void length(QuotaPeers x, int before, int length) {
        long octets = (1L << 24 | length) << 32;
        check.due("three octets", x.feed(1, octets, 0, 0, 0, 3), 0);
        check.due("open with three of " + length, x.connection(1, 0), before);
        check.due("the fourth", x.feed(1, octets << 24, 0, 0, 0, 1), 0);
        check.due("with length " + length, x.connection(1, 0), fits(length) ? 2 : 0);
        check.due("octets of length " + length, x.connection(1, 3), fits(length) ? 4 : 0);
        check.due("none lost", x.lost(), 0);
    }

    private static void lengths() {
        check.of("When 4 octets of one are there, and LENGTH is below 20, above 600, or no multiple of four,"
                + " the CONNECTION is CLOSED by the NODE");
        for (int length = 0; length <= 700; length++) {
            QuotaPeers x = Scene.withPeer(EARLY);
            x.accept();
            length(x, 2, length);
        }
        int[] high = {0x000114, 0x000200, 0x000258, 0x000300, 0x010014, 0x010258, 0x7F0014, 0x800014, 0xFF0258, 0xFFFFFC,
                0xFFFFFF};
        for (int length : high) {
            QuotaPeers x = Scene.withPeer(EARLY);
            x.accept();
            length(x, 2, length);
        }
    }

    private static void lengthsOfLaterOnes() {
        check.of("(what comes behind the one by which it is CLOSED is forgotten; one that breaks off by its LENGTH is none,"
                + " nor LOST)");
        int[] lengths = {16, 19, 20, 21, 24, 600, 604};
        for (int length : lengths) {
            QuotaPeers x = Scene.open();
            Check.feed(x, 1, Wire.request(Wire.WATCH, 1, 1));
            length(x, 2, length);
            check.due("state with length " + length, x.state(1, 0), fits(length) ? 5 : 0);
        }
        // In one feed: a message, and four octets that break off.
        QuotaPeers x = Scene.open();
        check.due("one message", x.feed(1, 0x0100001480000118L, 0, 0x0000000101000013L, 0x8000011800000000L, 32), 1);
        check.due("closed", x.connection(1, 0), 0);
        check.due("none lost", x.lost(), 0);
        check.due("its answer waits", Check.take(x, 1), Wire.answer(0, Wire.WATCH, 0, 1, 5005, Wire.failed(264)));
        // In one feed: a message that closes, and another that would be answered.
        QuotaPeers y = Scene.withPeer(EARLY);
        y.accept();
        check.due("one message", y.feed(1, 0x0100001480000118L, 0, 0x0000000101000014L, 0x8000011800000000L, 32), 1);
        check.due("closed", y.connection(1, 0), 0);
        check.due("one answer", Check.take(y, 1), Wire.answer(0, Wire.WATCH, 0, 1, 5005, Wire.failed(264)));
        check.due("no other", y.waiting(1), 0);
        check.due("forgotten", y.connection(1, 3), 0);
        y.accept();
        check.due("forgotten when it is given anew", y.connection(1, 3), 0);
    }

    private static void goneForItsPeer() {
        check.of("(for its PEER as if it were gone)");
        int[][] cases = {{2, 1, 0, 0, 0}, {3, 2, 1, 1, 0}, {4, 1, 5, 0, 2}, {4, 2, 2, 1, 0}, {5, 1, 0, 0, 0}, {6, 1, 0, 0, 0},
                {7, 1, 0, 0, 0}};
        for (int[] one : cases) {
            QuotaPeers x = Scene.in(one[0], LATE);
            check.due("broken off", x.feed(one[1], 0x01000013L << 32, 0, 0, 0, 8), 0);
            check.due("closed", x.connection(one[1], 0), 0);
            state(x, "in " + one[0] + " by " + one[1], one[2], one[3], one[4]);
            QuotaPeers y = Scene.in(one[0], LATE);
            check.due("gone", y.gone(one[1]), 1);
            state(y, "gone in " + one[0] + " by " + one[1], one[2], one[3], one[4]);
            check.due("status alike", x.state(1, 3), y.state(1, 3));
            check.due("given over alike", x.state(1, 6), y.state(1, 6));
            check.due("none lost", x.lost(), 0);
        }
    }

    /** A node on whose CONNECTION 1 that many octets wait, in ANSWERS of 60 behind some that were taken. */
    private static QuotaPeers filled(int octets) {
        QuotaPeers x = Scene.withPeer(EARLY);
        Scene.come(x, EARLY);
        int waits = 112;
        for (int i = 0; waits + 60 * i < octets; i++) {
            Check.feed(x, 1, Wire.request(999, 1, 1));
            if (waits + 60 * (i + 1) >= octets) {
                for (int more = waits + 60 * (i + 1) - octets; more > 0; more--) {
                    x.take(1);
                }
                break;
            }
        }
        check.due("waits", x.waiting(1), octets);
        return x;
    }

    private static void twoThousand() {
        check.of("What goes waits to be taken, up to 2000 octets; a MESSAGE that has no room is LOST.");
        for (int octets = 1936; octets <= 1944; octets++) {
            QuotaPeers x = filled(octets);
            check.due("none lost", x.lost(), 0);
            check.due("done", Check.feed(x, 1, Wire.request(999, 1, 1)), 1);
            boolean room = octets + 60 <= 2000;
            check.due("behind " + octets, x.waiting(1), room ? octets + 60 : octets);
            check.due("lost behind " + octets, x.lost(), room ? 0 : 1);
        }
        QuotaPeers full = filled(1940);
        Check.feed(full, 1, Wire.request(999, 1, 1));
        check.due("full", full.waiting(1), 2000);
        Check.feed(full, 1, Wire.request(999, 1, 1));
        Check.feed(full, 1, Wire.request(999, 1, 1));
        check.due("still full", full.waiting(1), 2000);
        check.due("two lost", full.lost(), 2);
    }

    private static void eachMessageByItself() {
        check.of("a MESSAGE that has no room is LOST");
        // 64 octets are left: an answer of 76 has no room, one of 60 has it.
        QuotaPeers x = filled(1936);
        Check.feed(x, 1, Wire.request(Wire.WATCH, 1, 1));
        check.due("76 have no room", x.waiting(1), 1936);
        check.due("lost", x.lost(), 1);
        Check.feed(x, 1, Wire.request(999, 1, 1));
        check.due("60 have room", x.waiting(1), 1996);
        check.due("no more lost", x.lost(), 1);
        // Nothing of one that has no room is there, and what waits goes round the end unchanged.
        for (int i = 0; i < 196; i++) {
            x.take(1);
        }
        Check.feed(x, 1, Wire.watch(EARLY, 7));
        for (int i = 0; i < 160; i++) {
            x.take(1);
        }
        check.due("what waits", x.waiting(1), 1996 - 196 - 160 + 72);
    }

    private static void nodesOwnWithoutRoom() {
        check.of("(one that has no room is LOST, and all goes on as if it had been sent)");
        // A WATCH of the node has 60 octets, an ENDING too, an ASK for "s" by "c.d" of "e" has 108.
        for (int octets = 1940; octets <= 1941; octets++) {
            QuotaPeers x = filled(octets);
            check.due("the timer", x.tick(30), 1);
            check.due("waits", x.waiting(1), octets == 1940 ? 2000 : 1941);
            check.due("lost", x.lost(), octets - 1940);
            check.due("awaited", x.state(1, 4), 1);
            check.due("the timer is set", x.state(1, 5), 60);
            check.due("it has its hop", Check.feed(x, 1, Wire.reply(Wire.WATCH, 1, 2001, EARLY)), 1);
            check.due("answered", x.state(1, 4), 0);
            QuotaPeers y = filled(octets);
            check.due("stop", y.stop(1, 0), 1);
            check.due("lost", y.lost(), octets - 1940);
            check.due("ending", y.state(1, 0), 7);
            Check.feed(y, 1, Wire.reply(Wire.ENDING, 1, 2001, EARLY));
            check.due("it has its hop", y.state(1, 0), 0);
        }
        for (int octets = 1892; octets <= 1893; octets++) {
            QuotaPeers y = filled(octets - 144);
            y.account(120, 5000);
            Check.feed(y, 1, Wire.credit("s", 50, 1, 0, Wire.subscriber("120")));
            check.due("an answer of 144", y.waiting(1), octets);
            check.due("asked", y.ask(0), 0);
            check.due("waits", y.waiting(1), octets == 1892 ? 2000 : 1893);
            check.due("lost", y.lost(), octets - 1892);
            check.due("sent", y.asked(0, 2), 1);
            check.due("its hop", y.asked(0, 3), 1);
            Check.feed(y, 1, Wire.reply(Wire.ASK, 1, 2001, EARLY));
            check.due("its result", y.asked(0, 0), 2001);
        }
    }

    private static void takenWhenClosed() {
        check.of("What waits may be taken when it is CLOSED, too, until the number is given anew");
        QuotaPeers x = Scene.withPeer(EARLY);
        Scene.come(x, EARLY);
        check.due("waits", x.waiting(1), 112);
        check.due("gone", x.gone(1), 1);
        check.due("still waits", x.waiting(1), 112);
        check.due("all of it", Check.take(x, 1), Scene.welcome(1));
        check.due("none waits", x.take(1), -2);
        check.due("none waits", x.waiting(1), 0);
        Scene.come(x, "q");
        check.due("closed by the node", x.connection(1, 0), 0);
        check.due("its answer waits", Check.take(x, 1), Wire.answer(32, Wire.OPENING, 71, 81, 3010));
    }

    private static void givenAnew() {
        check.of("(the least that is CLOSED, what waits is forgotten then)");
        QuotaPeers x = Scene.withPeer(EARLY);
        for (int c = 1; c <= 8; c++) {
            x.accept();
        }
        for (int c = 1; c <= 8; c++) {
            Check.feed(x, c, Wire.request(999, c, c));
        }
        for (int c = 1; c <= 8; c++) {
            check.due("closed", x.connection(c, 0), 0);
            check.due("waits", x.waiting(c), 60);
        }
        check.due("the least", x.accept(), 1);
        check.due("forgotten", x.waiting(1), 0);
        check.due("not of the next", x.waiting(2), 60);
        check.due("the next, by start", x.start(1), 2);
        check.due("forgotten", x.waiting(2), 0);
        check.due("none to take", x.take(2), -2);
        check.due("not of the next", x.waiting(3), 60);
        check.due("gone", x.gone(1), 1);
        check.due("the least again", x.accept(), 1);
        check.due("then the third", x.accept(), 3);
        for (int c = 4; c <= 8; c++) {
            check.due("the others", x.accept(), c);
        }
        check.due("none", x.accept(), -4);
        check.due("a refused one changes nothing", x.waiting(8), 0);
        // Forgotten, too, when the TIMER starts a PEER.
        QuotaPeers y = new QuotaPeers();
        Check.peer(y, EARLY, true);
        y.accept();
        Check.feed(y, 1, Wire.request(999, 1, 1));
        check.due("waits", y.waiting(1), 60);
        y.tick(29);
        check.due("waits", y.waiting(1), 60);
        y.tick(30);
        check.due("given by the timer", y.connection(1, 0), 1);
        check.due("forgotten", y.waiting(1), 0);
    }

    private static void strangeTillAnOpening() {
        check.of("one that came is STRANGE, till an OPENING on it that is not WRONG tells by HOST which PEER it is");
        QuotaPeers x = Scene.openPeers(0);
        Check.peer(x, "a", false);
        Check.peer(x, "aa", false);
        x.accept();
        check.due("strange", x.connection(1, 1) + x.connection(1, 2), 0);
        byte[] opening = Wire.opening("aa", 1, 1);
        Check.feed(x, 1, Arrays.copyOf(opening, opening.length - 1));
        check.due("strange before the last octet", x.connection(1, 1) + x.connection(1, 2), 0);
        Check.feed(x, 1, Arrays.copyOfRange(opening, opening.length - 1, opening.length));
        check.due("the second peer's", x.connection(1, 1), 2);
        check.due("came", x.connection(1, 2), 2);
        check.due("the first stays", x.state(1, 0), 0);
        check.due("the second is open", x.state(2, 0), 5);
        check.due("an own one", x.start(1), 2);
        check.due("its peer", x.connection(2, 1), 1);
        check.due("own", x.connection(2, 2), 1);
        QuotaPeers y = Scene.withPeer(EARLY);
        y.accept();
        Check.feed(y, 1, Wire.request(Wire.OPENING, 5, 6, Wire.origin(EARLY, "r")));
        check.due("a wrong one tells nothing", y.state(1, 0), 0);
        check.due("and closes", y.connection(1, 0), 0);
    }

    private static void noSuchPeer() {
        check.of("if there is none, it is answered with 3010, and CLOSED");
        String[] others = {"a.", "a.bc", "a.a", "a.c", "A.b", "m.home", "x".repeat(40), "\u0000", "a.b\u0000"};
        for (String name : others) {
            QuotaPeers x = Scene.withPeer(EARLY);
            check.due("came", Scene.come(x, name), 1);
            check.due("closed", x.connection(1, 0), 0);
            check.due("answered", Check.take(x, 1), Wire.answer(32, Wire.OPENING, 71, 81, 3010));
            check.due("not lost", x.lost(), 0);
            state(x, "the peer stays", 0, 0, 0);
        }
        QuotaPeers x = Scene.withPeer(EARLY);
        Scene.come(x, EARLY);
        check.due("there is one", x.state(1, 0), 5);
        QuotaPeers y = new QuotaPeers();
        Scene.come(y, EARLY);
        check.due("no peer at all", Check.take(y, 1), Wire.answer(32, Wire.OPENING, 71, 81, 3010));
    }

    private static void wrongOnStrange() {
        check.of("On a STRANGE one a REQUEST that is WRONG is answered, and it is CLOSED");
        byte[][] wrong = {Wire.message(0, 128, 257, 0, 5, 6), Wire.message(1, 128, 999, 0, 5, 6),
                Wire.message(1, 128, 280, 4, 5, 6), Wire.message(1, 160, 257, 0, 5, 6),
                Wire.request(Wire.WATCH, 5, 6), Wire.request(Wire.OPENING, 5, 6, Wire.origin(EARLY, "r"), new byte[4])};
        byte[][] due = {Wire.answer(0, 257, 5, 6, 5011), Wire.answer(32, 999, 5, 6, 3001),
                Wire.message(1, 32, 280, 4, 5, 6, Wire.number(268, 3007), Wire.origin("m.home", "home")),
                Wire.answer(32, 257, 5, 6, 3008), Wire.answer(0, 280, 5, 6, 5005, Wire.failed(264)),
                Wire.answer(0, 257, 5, 6, 5014, Wire.failed(0))};
        for (int i = 0; i < wrong.length; i++) {
            QuotaPeers x = Scene.withPeer(EARLY);
            x.accept();
            check.due("done", Check.feed(x, 1, wrong[i]), 1);
            check.due("answered", Check.take(x, 1), due[i]);
            check.due("closed", x.connection(1, 0), 0);
            check.due("not lost", x.lost(), 0);
            state(x, "the peer stays", 0, 0, 0);
        }
    }

    private static void anyOtherOnStrange() {
        check.of("any other MESSAGE has it CLOSED");
        byte[][] others = {Wire.watch(EARLY, 5), Wire.ending(EARLY, 5), Wire.credit("s", 5, 1, 0),
                Wire.reply(Wire.OPENING, 1, 2001, EARLY), Wire.reply(Wire.WATCH, 1, 2001, EARLY),
                Wire.message(1, 0, 257, 0, 1, 1), Wire.message(2, 0, 257, 0, 1, 1), Wire.message(1, 15, 999, 0, 1, 1)};
        for (int i = 0; i < others.length; i++) {
            QuotaPeers x = Scene.withPeer(EARLY);
            x.accept();
            check.due("done", Check.feed(x, 1, others[i]), 1);
            check.due("closed by " + i, x.connection(1, 0), 0);
            check.due("not answered", x.waiting(1), 0);
            check.due("lost", x.lost(), 1);
            check.due("not kept", x.kept(), 0);
            state(x, "the peer stays", 0, 0, 0);
        }
    }

    private static void noOnesAnyMore() {
        check.of("CLOSED it is no one's any more.");
        int[][] cases = {{1, 1}, {2, 1}, {3, 1}, {3, 2}, {4, 1}, {4, 2}, {5, 1}, {6, 1}, {7, 1}};
        for (int[] one : cases) {
            QuotaPeers x = Scene.in(one[0], LATE);
            check.due("its peer before", x.connection(one[1], 1), 1);
            x.gone(one[1]);
            for (int what = 0; what <= 3; what++) {
                check.due("of one in " + one[0], x.connection(one[1], what), 0);
            }
            check.due("not its own", x.state(1, 1) == one[1] ? 1 : 0, 0);
            check.due("not its came", x.state(1, 2) == one[1] ? 1 : 0, 0);
        }
    }

    private static void closedByAMessage() {
        check.of("A MESSAGE by which a CONNECTION is CLOSED, and that is not answered, is LOST,"
                + " but for the ANSWER to an ENDING.");
        QuotaPeers x = Scene.in(2, LATE);
        Check.feed(x, 1, Wire.watch(LATE, 5));
        check.due("on an own one: lost", x.lost(), 1);
        check.due("closed", x.connection(1, 0), 0);
        QuotaPeers y = Scene.in(4, LATE);
        Check.feed(y, 1, Wire.reply(Wire.OPENING, 1, 2002, LATE));
        check.due("when choosing: lost", y.lost(), 1);
        QuotaPeers z = Scene.in(7, LATE);
        Check.feed(z, 1, Wire.reply(Wire.ENDING, 1, 2001, LATE));
        check.due("the answer to an ending: closed", z.connection(1, 0), 0);
        check.due("the answer to an ending: not lost", z.lost(), 0);
        QuotaPeers w = Scene.in(2, EARLY);
        Scene.come(w, EARLY);
        check.due("one that is answered: the own one is closed", w.connection(1, 0), 0);
        check.due("one that is answered: not lost", w.lost(), 0);
    }

    private static byte[] opening(String name, long... auths) {
        byte[] all = Wire.origin(name, "r");
        for (long auth : auths) {
            all = Wire.join(all, Wire.number(258, auth));
        }
        return Wire.request(Wire.OPENING, 5, 6, all);
    }

    private static void auths() {
        check.of("An OPENING of a PEER on a STRANGE CONNECTION must have an AUTH that is 4, or 4294967295;"
                + " else it is answered with 5010, and the CONNECTION is CLOSED");
        long[] values = {0, 1, 3, 4, 5, 260, 4 | 1L << 31, 2147483647L, 2147483648L, 4294967294L, 4294967295L};
        for (long value : values) {
            boolean right = value == 4 || value == 4294967295L;
            QuotaPeers x = Scene.withPeer(EARLY);
            x.accept();
            Check.feed(x, 1, opening(EARLY, value));
            check.due("auth " + value, x.state(1, 0), right ? 5 : 0);
            check.due("connection with " + value, x.connection(1, 0), right ? 2 : 0);
            check.due("answered", Check.take(x, 1), right ? Wire.answer(0, Wire.OPENING, 5, 6, 2001, Wire.introduction())
                    : Wire.answer(0, Wire.OPENING, 5, 6, 5010));
            check.due("not lost", x.lost(), 0);
        }
        long[][] several = {{4, 3}, {3, 4}, {3, 5, 4294967295L}, {3, 5, 0}};
        for (int i = 0; i < several.length; i++) {
            QuotaPeers x = Scene.withPeer(EARLY);
            x.accept();
            Check.feed(x, 1, opening(EARLY, several[i]));
            check.due("several " + i, x.state(1, 0), i == 3 ? 0 : 5);
        }
        QuotaPeers x = Scene.withPeer(EARLY);
        x.accept();
        Check.feed(x, 1, Wire.request(Wire.OPENING, 5, 6, Wire.origin(EARLY, "r"), Wire.number(258, 3),
                Wire.group(443, Wire.number(258, 4)), Wire.attribute(258, 128, Wire.octets(0, 0, 0, 4, 0, 0, 0, 4))));
        check.due("in a group, or with maker", Check.take(x, 1), Wire.answer(0, Wire.OPENING, 5, 6, 5010));
        x.accept();
        Check.feed(x, 1, opening("q", 3));
        check.due("of no peer", Check.take(x, 1), Wire.answer(32, Wire.OPENING, 5, 6, 3010));
    }

    private static void authInAnyState() {
        check.of("the PEER stays as it is, in any STATE");
        for (int state = 0; state <= 7; state++) {
            QuotaPeers x = Scene.in(state, LATE);
            int own = x.state(1, 1);
            int came = x.state(1, 2);
            int c = x.accept();
            Check.feed(x, c, opening(LATE, 3));
            check.due("answered", Check.take(x, c), Wire.answer(0, Wire.OPENING, 5, 6, 5010));
            check.due("closed", x.connection(c, 0), 0);
            state(x, "in " + state, state, own, came);
            check.due("not lost", x.lost(), 0);
        }
    }
}
