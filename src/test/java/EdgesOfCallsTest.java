import java.util.Arrays;
import java.util.function.Supplier;
import java.util.function.ToLongFunction;

/**
 * Promises 1 to 25: each sentence that names a boundary has a test of its own, at it and on both sides. What is refused
 * is asked of a new node, and all that can be seen of it is the same before and behind the call.
 */
public final class EdgesOfCallsTest {
    private static final Check check = new Check();
    private static final String EARLY = Scene.EARLY;
    private static final String LATE = Scene.LATE;
    private static final long MOST = 1L << 60;
    private static final int LEAST_INT = Integer.MIN_VALUE;
    private static final int MOST_INT = Integer.MAX_VALUE;
    /** Of CONNECTIONS: none of these is 1 .. 8. */
    private static final int[] NO_NUMBERS = {LEAST_INT, -1, 0, 9, 10, 256, MOST_INT};

    public static void main(String[] args) {
        newObject();
        signOctets();
        signEmpties();
        signRefuses();
        own();
        ownRefuses();
        peer();
        peerRefuses();
        start();
        startByTimer();
        accept();
        connected();
        feed();
        feedRefuses();
        gone();
        stop();
        tick();
        tickCounts();
        clock();
        take();
        waiting();
        connection();
        state();
        account();
        balance();
        sessions();
        session();
        granted();
        ask();
        asked();
        kept();
        lost();
        firstThatFits();
        check.end("EdgesOfCallsTest");
    }

    private static String show(QuotaPeers x) {
        StringBuilder all = new StringBuilder(Check.show(x));
        for (long number = 1; number <= 4; number++) {
            all.append("\nb ").append(x.balance(number, 0)).append(' ').append(x.balance(number, 1));
        }
        return all.append(' ').append(x.balance(120, 0)).append(' ').append(x.balance(120, 1)).toString();
    }

    private static void refused(String what, long due, Supplier<QuotaPeers> scene, ToLongFunction<QuotaPeers> call) {
        QuotaPeers x = scene.get();
        String before = show(x);
        check.due(what, call.applyAsLong(x), due);
        check.due(what + " changed something", show(x).equals(before) ? 0 : 1, 0);
    }

    private static QuotaPeers signed(String name) {
        QuotaPeers x = new QuotaPeers();
        Check.sign(x, name);
        return x;
    }

    /** With a SESSION "s" by its PEER "a", and another PEER "b", both OPEN. */
    private static QuotaPeers withSession() {
        QuotaPeers x = Scene.openPeers(2);
        Scene.begin(x, 1);
        return x;
    }

    private static QuotaPeers withAll(int connections) {
        QuotaPeers x = Scene.withPeer(EARLY);
        for (int c = 1; c <= connections; c++) {
            x.accept();
        }
        return x;
    }

    private static void newObject() {
        check.of("A NODE without PEERS, ACCOUNTS and CONNECTIONS, with HOST \"m.home\", at 0 seconds.");
        QuotaPeers x = new QuotaPeers();
        check.due("clock", x.clock(), 0);
        check.due("no peer", x.state(1, 0), -1);
        check.due("no account", x.balance(1, 0), -1);
        for (int c = 1; c <= 8; c++) {
            check.due("connection", x.connection(c, 0), 0);
            check.due("gone", x.gone(c), -1);
        }
        check.due("sessions", x.sessions(), 0);
        check.due("kept", x.kept(), 0);
        check.due("lost", x.lost(), 0);
        check.due("name at hand", x.sign(0), 0);
        check.due("its host", Check.peer(x, "m.home", false), -3);
        // Objects have nothing in common.
        QuotaPeers y = new QuotaPeers();
        check.due("another peer 1", Check.peer(x, "a", false), 1);
        check.due("not of the other", y.state(1, 0), -1);
    }

    private static void signOctets() {
        check.of("The NAME at hand gets up to four octets, the highest first; octets of 0 are none: how many it has.");
        int[] values = {0, 0x61, 0x6100, 0x610000, 0x61000000, 0x6162, 0x61000062, 0x616200, 0x616263, 0x61006263,
                0x61620063, 0x61626300, 0x61626364};
        String[] names = {"", "a", "a", "a", "a", "ab", "ab", "ab", "abc", "abc", "abc", "abc", "abcd"};
        for (int i = 0; i < values.length; i++) {
            QuotaPeers x = new QuotaPeers();
            check.due("sign " + i, x.sign(values[i]), names[i].length());
            check.due("and again", x.sign(values[i]), 2 * names[i].length());
            if (!names[i].isEmpty()) {
                check.due("peer", x.peer(false), 1);
                Scene.come(x, names[i] + names[i]);
                check.due("it is " + names[i] + " twice", x.state(1, 0), 5);
            }
        }
    }

    private static void signEmpties() {
        check.of("With -1 it is empty: 0.");
        int[] lengths = {0, 1, 40};
        for (int length : lengths) {
            QuotaPeers x = signed("n".repeat(length));
            check.due("emptied", x.sign(-1), 0);
            check.due("empty", x.peer(false), -2);
            check.due("filled anew", Check.sign(x, "n".repeat(40)), 40);
        }
        refused("-2 is no -1", -2, () -> signed("abc"), x -> x.sign(-2));
        refused("nor is 2^31 - 1", -2, () -> signed("abc"), x -> x.sign(MOST_INT));
    }

    private static void signRefuses() {
        check.of("-2 one of them is none of a NAME's, -4 it would have more than 40.");
        int[] wrong = {0x41, 0x4100, 0x410000, 0x41000000, 0x61626341, 0x41626364, 0x61416364, 0x61624164, 0x80, 0xFF,
                0xFF000000, 1, 0x20, LEAST_INT};
        for (int value : wrong) {
            refused("sign " + value, -2, () -> signed("abc"), x -> x.sign(value));
            refused("sign behind 40 " + value, -2, () -> signed("n".repeat(40)), x -> x.sign(value));
        }
        int[] octets = {0, 0x61, 0x61000061, 0x616161, 0x61616161};
        for (int more = 0; more <= 4; more++) {
            int value = octets[more];
            for (int there = 35; there <= 40; there++) {
                String name = "n".repeat(there);
                if (there + more <= 40) {
                    check.due(more + " behind " + there, signed(name).sign(value), there + more);
                } else {
                    refused(more + " behind " + there, -4, () -> signed(name), x -> x.sign(value));
                }
            }
        }
    }

    private static void own() {
        check.of("The NAME at hand, which is empty then, is the NODE's HOST: how many octets it has.");
        int[] lengths = {1, 2, 39, 40};
        for (int length : lengths) {
            String name = "n".repeat(length);
            QuotaPeers x = signed(name);
            check.due("own", x.own(), length);
            check.due("empty then", x.sign(0), 0);
            check.due("it is the node's", Check.peer(x, name, false), -3);
            check.due("the first one is not any more", Check.peer(x, "m.home", false), 1);
            x.start(1);
            x.connected(1, true);
            check.due("told", Check.take(x, 1), Wire.request(Wire.OPENING, 1, 1, Wire.origin(name, "home"),
                    Wire.introduction()));
        }
        QuotaPeers x = signed("a");
        x.own();
        Check.sign(x, "b");
        check.due("once more", x.own(), 1);
        check.due("the one before is free", Check.peer(x, "a", false), 1);
    }

    private static void ownRefuses() {
        check.of("-2 it is empty, -3 there is a PEER.");
        refused("empty", -2, QuotaPeers::new, QuotaPeers::own);
        refused("emptied", -2, () -> {
            QuotaPeers x = signed("abc");
            x.sign(-1);
            return x;
        }, QuotaPeers::own);
        refused("a peer", -3, () -> {
            QuotaPeers x = Scene.withPeer(EARLY);
            Check.sign(x, "abc");
            return x;
        }, QuotaPeers::own);
        refused("empty, and a peer", -2, () -> Scene.withPeer(EARLY), QuotaPeers::own);
        QuotaPeers x = signed("abc");
        x.accept();
        check.due("a connection is no peer", x.own(), 3);
    }

    private static void peer() {
        check.of("A new PEER with the NAME at hand, which is empty then, as its HOST;"
                + " whether the NODE starts it by itself: its number.");
        QuotaPeers x = new QuotaPeers();
        for (int p = 1; p <= 4; p++) {
            Check.sign(x, "n".repeat(10 * p));
            check.due("its number", x.peer(p % 2 == 0), p);
            check.due("empty then", x.sign(0), 0);
        }
        x.tick(30);
        for (int p = 1; p <= 4; p++) {
            check.due("started by the node", x.state(p, 0), p % 2 == 0 ? 1 : 0);
        }
    }

    private static QuotaPeers named(int peers, String name) {
        QuotaPeers x = new QuotaPeers();
        for (int p = 1; p <= peers; p++) {
            Check.peer(x, "n".repeat(36 + p), false);
        }
        Check.sign(x, name);
        return x;
    }

    private static void peerRefuses() {
        check.of("-2 the NAME is empty, -3 it is the NODE's HOST, or a PEER's, -4 there are four.");
        for (int peers = 0; peers <= 4; peers++) {
            int count = peers;
            refused("empty", -2, () -> named(count, ""), x -> x.peer(true));
            refused("the node's", -3, () -> named(count, "m.home"), x -> x.peer(true));
            for (int p = 1; p <= peers; p++) {
                String name = "n".repeat(36 + p);
                refused("a peer's of " + name.length(), -3, () -> named(count, name), x -> x.peer(false));
            }
            if (peers == 4) {
                refused("a fifth", -4, () -> named(4, "m.hom"), x -> x.peer(true));
            } else {
                check.due("another", named(peers, "m.hom").peer(true), peers + 1);
                check.due("another of 40", named(peers, "n".repeat(39) + "m").peer(true), peers + 1);
                check.due("another of 36", named(peers, "n".repeat(36)).peer(true), peers + 1);
            }
        }
    }

    private static void start() {
        check.of("A PEER in STATE 0 is started: the number of its OWN CONNECTION. -1 there is none,"
                + " -3 it is in another STATE, -4 no CONNECTION is CLOSED.");
        int[] none = {LEAST_INT, -1, 0, 2, 3, 4, 5, MOST_INT};
        for (int p : none) {
            refused("peer " + p, -1, () -> Scene.withPeer(EARLY), x -> x.start(p));
        }
        for (int state = 1; state <= 7; state++) {
            int one = state;
            refused("in " + state, -3, () -> Scene.in(one, LATE), x -> x.start(1));
        }
        for (int taken = 0; taken <= 7; taken++) {
            check.due("behind " + taken, withAll(taken).start(1), taken + 1);
        }
        refused("behind 8", -4, () -> withAll(8), x -> x.start(1));
        QuotaPeers x = Scene.withPeer(EARLY);
        x.start(1);
        x.gone(1);
        check.due("started anew", x.start(1), 1);
    }

    private static void startByTimer() {
        check.of("(When the TIMER starts it and no CONNECTION is CLOSED, nothing is done.)");
        for (int taken = 7; taken <= 8; taken++) {
            QuotaPeers x = new QuotaPeers();
            Check.peer(x, EARLY, true);
            for (int c = 1; c <= taken; c++) {
                x.accept();
            }
            check.due("the timer", x.tick(30), 1);
            check.due("behind " + taken, x.state(1, 0), taken == 7 ? 1 : 0);
            check.due("its connection", x.state(1, 1), taken == 7 ? 8 : 0);
            check.due("the timer is set", x.state(1, 5), 60);
        }
    }

    private static void accept() {
        check.of("A CONNECTION came: its number; it is OPEN and STRANGE. -4 none is CLOSED.");
        for (int taken = 0; taken <= 7; taken++) {
            QuotaPeers x = withAll(taken);
            check.due("behind " + taken, x.accept(), taken + 1);
            int[] due = {2, 0, 0, 0};
            for (int what = 0; what <= 3; what++) {
                check.due("what " + what, x.connection(taken + 1, what), due[what]);
            }
        }
        refused("behind 8", -4, () -> withAll(8), QuotaPeers::accept);
        for (int gone = 1; gone <= 8; gone++) {
            QuotaPeers x = withAll(8);
            x.gone(gone);
            check.due("the one that is closed", x.accept(), gone);
        }
    }

    private static void connected() {
        check.of("A CONNECTION that the NODE asked for is OPEN, or refused (and CLOSED): 1."
                + " -1 there is none (also CLOSED), -3 it is OPEN already.");
        for (int number : NO_NUMBERS) {
            refused("number " + number, -1, () -> Scene.in(1, EARLY), x -> x.connected(number, true));
            refused("number " + number, -1, () -> Scene.in(1, EARLY), x -> x.connected(number, false));
        }
        for (int number = 2; number <= 8; number++) {
            int one = number;
            refused("closed", -1, () -> Scene.in(1, EARLY), x -> x.connected(one, true));
        }
        refused("an own one", -3, () -> Scene.in(2, EARLY), x -> x.connected(1, true));
        refused("an own one", -3, () -> Scene.in(2, EARLY), x -> x.connected(1, false));
        refused("a strange one", -3, () -> withAll(8), x -> x.connected(8, true));
        refused("a came one", -3, () -> Scene.open(), x -> x.connected(1, false));
        QuotaPeers x = Scene.in(1, EARLY);
        check.due("open", x.connected(1, true), 1);
        check.due("open", x.connection(1, 0), 2);
        QuotaPeers y = Scene.in(1, EARLY);
        check.due("refused", y.connected(1, false), 1);
        check.due("closed", y.connection(1, 0), 0);
        check.due("once", y.connected(1, false), -1);
    }

    private static long part(byte[] octets, int at) {
        long value = 0;
        for (int i = 0; i < 8; i++) {
            // What is behind the octets that are told must not be looked at.
            value = value << 8 | (at + i < octets.length ? octets[at + i] & 255 : 165);
        }
        return value;
    }

    private static int feedParts(QuotaPeers x, byte[] octets) {
        return x.feed(1, part(octets, 0), part(octets, 8), part(octets, 16), part(octets, 24), octets.length);
    }

    private static void feed() {
        check.of("The first n octets of a, b, c, d, of each the highest first, come on a CONNECTION:"
                + " how many MESSAGES were done by them");
        byte[] opening = Wire.opening(EARLY, 0x01020304, 0xFCFDFEFFL);
        for (int n = 1; n <= 32; n++) {
            QuotaPeers x = Scene.withPeer(EARLY);
            x.accept();
            check.due("the first " + n, feedParts(x, Arrays.copyOf(opening, n)), 0);
            check.due("are there", x.connection(1, 3), n);
            int done = 0;
            for (int at = n; at < opening.length; at += n) {
                int to = Math.min(opening.length, at + n);
                int got = feedParts(x, Arrays.copyOfRange(opening, at, to));
                check.due("done by the last", got, to == opening.length ? 1 : 0);
                done += got;
            }
            check.due("one message", done, 1);
            check.due("its answer", Check.take(x, 1), Wire.answer(0, Wire.OPENING, 0x01020304, 0xFCFDFEFFL, 2001,
                    Wire.introduction()));
        }
        QuotaPeers x = Scene.open();
        byte[] shortest = Wire.request(999, 1, 1);
        feedParts(x, Arrays.copyOf(shortest, 19));
        check.due("two in one", feedParts(x, Wire.join(Arrays.copyOfRange(shortest, 19, 20), shortest)), 2);
        feedParts(x, Arrays.copyOf(shortest, 8));
        check.due("two and no more", feedParts(x, Wire.join(Arrays.copyOfRange(shortest, 8, 20), shortest)), 2);
        check.due("none is left", x.connection(1, 3), 0);
    }

    private static void feedRefuses() {
        check.of("-1 there is none that is OPEN, -2 n is not 1 .. 32");
        for (int number : NO_NUMBERS) {
            refused("number " + number, -1, () -> withAll(8), x -> x.feed(number, 0, 0, 0, 0, 1));
        }
        refused("closed", -1, () -> withAll(7), x -> x.feed(8, 0, 0, 0, 0, 1));
        refused("asked for", -1, () -> Scene.in(1, EARLY), x -> x.feed(1, 0, 0, 0, 0, 1));
        int[] wrong = {LEAST_INT, -1, 0, 33, 34, 64, 257, MOST_INT};
        for (int n : wrong) {
            refused("n is " + n, -2, () -> withAll(8), x -> x.feed(8, 0x0100001480000118L, 0, 0, 0, n));
            refused("n is " + n + ", closed", -1, () -> withAll(7), x -> x.feed(8, 0, 0, 0, 0, n));
        }
        check.due("1", withAll(8).feed(8, 1L << 56, 0, 0, 0, 1), 0);
        check.due("32", withAll(8).feed(8, 0x0100001480000118L, 0, 0, 0, 32), 1);
    }

    private static void gone() {
        check.of("A CONNECTION (OPEN, or asked for) is gone: 1; it is CLOSED (one that was asked for: as if refused)."
                + " -1 there is none.");
        for (int number : NO_NUMBERS) {
            refused("number " + number, -1, () -> withAll(8), x -> x.gone(number));
        }
        for (int number = 1; number <= 8; number++) {
            int one = number;
            refused("closed", -1, () -> Scene.withPeer(EARLY), x -> x.gone(one));
            QuotaPeers x = withAll(8);
            check.due("open", x.gone(number), 1);
            check.due("closed", x.connection(number, 0), 0);
            check.due("once", x.gone(number), -1);
        }
        for (int state = 1; state <= 3; state += 2) {
            QuotaPeers x = Scene.in(state, LATE);
            QuotaPeers y = Scene.in(state, LATE);
            check.due("asked for", x.gone(1), 1);
            check.due("refused", y.connected(1, false), 1);
            check.due("as if refused in " + state, show(x).equals(show(y)) ? 0 : 1, 0);
        }
    }

    private static void stop() {
        check.of("An ENDING with a CAUSE is sent to a PEER in 5, 6: 1. -1 there is none, -2 the cause is not 0 .. 2,"
                + " -3 it is in another STATE.");
        for (int state = 0; state <= 7; state++) {
            int one = state;
            for (int cause = 0; cause <= 2; cause++) {
                int why = cause;
                if (state == 5 || state == 6) {
                    QuotaPeers x = Scene.in(state, LATE);
                    int hop = state == 5 ? 1 : 2;
                    check.due("in " + state, x.stop(1, cause), 1);
                    check.due("sent", Check.take(x, 1), Wire.request(Wire.ENDING, hop, hop, Wire.origin("m.home", "home"),
                            Wire.number(273, cause)));
                } else {
                    refused("in " + state, -3, () -> Scene.in(one, LATE), x -> x.stop(1, why));
                }
            }
            int[] wrong = {LEAST_INT, -1, 3, 4, 256, MOST_INT};
            for (int cause : wrong) {
                refused("cause " + cause + " in " + state, -2, () -> Scene.in(one, LATE), x -> x.stop(1, cause));
            }
        }
        int[] none = {LEAST_INT, -1, 0, 2, 5, MOST_INT};
        for (int p : none) {
            refused("peer " + p, -1, () -> Scene.open(), x -> x.stop(p, 0));
            refused("peer " + p + " and a wrong cause", -1, () -> Scene.open(), x -> x.stop(p, 3));
        }
    }

    private static QuotaPeers at(int time) {
        QuotaPeers x = new QuotaPeers();
        Check.peer(x, EARLY, false);
        for (int t = Math.min(2000, time); t < time; t += Math.min(2000, time - t)) {
            x.tick(t);
        }
        x.tick(time);
        return x;
    }

    private static void tick() {
        check.of("-2 t is less than it is, or more than 2000 later.");
        int[] times = {0, 1, 1999, 2000, 2001, 5000};
        for (int time : times) {
            check.due("the time", at(time).clock(), time);
            int[] wrong = {LEAST_INT, -1, time - 1, time + 2001, time + 2002, MOST_INT};
            for (int t : wrong) {
                if (t < time || t > time + 2000) {
                    refused(t + " at " + time, -2, () -> at(time), x -> x.tick(t));
                }
            }
            check.due("the same", at(time).tick(time), 0);
            check.due("one later", at(time).tick(time + 1) >= 0 ? 0 : 1, 0);
            check.due("1999 later", at(time).tick(time + 1999) >= 0 ? 0 : 1, 0);
            QuotaPeers x = at(time);
            check.due("2000 later", x.tick(time + 2000) >= 0 ? 0 : 1, 0);
            check.due("the time", x.clock(), time + 2000);
        }
        // As far as 512 calls can go.
        QuotaPeers x = new QuotaPeers();
        for (int i = 1; i <= 500; i++) {
            x.tick(2000 * i);
        }
        check.due("a million", x.clock(), 1000000);
        check.due("2001 later", x.tick(1002001), -2);
        check.due("the same", x.tick(1000000), 0);
    }

    private static void tickCounts() {
        check.of("It is t seconds: how many of what was due was done (10 seconds, TIMERS, SESSIONS).");
        check.due("nothing", new QuotaPeers().tick(2000), 0);
        check.due("no timer yet", Scene.withPeer(EARLY).tick(29), 0);
        check.due("one timer", Scene.withPeer(EARLY).tick(30), 1);
        check.due("still one", Scene.withPeer(EARLY).tick(59), 1);
        check.due("two timers", Scene.withPeer(EARLY).tick(60), 2);
        check.due("66 timers", Scene.withPeer(EARLY).tick(2000), 66);
        check.due("10 seconds and a timer", Scene.in(1, EARLY).tick(30), 2);
        QuotaPeers x = withSession();
        x.gone(1);
        x.gone(2);
        check.due("19 timers each", x.tick(599), 38);
        check.due("two timers and a session", x.tick(600), 3);
        check.due("nothing twice", x.tick(600), 0);
        // One that the node starts: each TIMER starts it, and each time its ten seconds are over.
        QuotaPeers y = new QuotaPeers();
        Check.peer(y, EARLY, true);
        check.due("timers and 10 seconds", y.tick(100), 3 + 3);
    }

    private static void clock() {
        check.of("`int clock()`: What time it is.");
        QuotaPeers x = new QuotaPeers();
        check.due("at first", x.clock(), 0);
        x.tick(1);
        check.due("1", x.clock(), 1);
        x.tick(2001);
        check.due("2001", x.clock(), 2001);
        x.tick(4002);
        check.due("a refused one changes nothing", x.clock(), 2001);
        x.tick(2000);
        check.due("a refused one changes nothing", x.clock(), 2001);
    }

    private static void take() {
        check.of("The next octet that waits on a CONNECTION, which is taken: 0 .. 255."
                + " -1 the number is not 1 .. 8, -2 none waits.");
        for (int number : NO_NUMBERS) {
            refused("number " + number, -1, () -> withAll(8), x -> x.take(number));
        }
        for (int number = 1; number <= 8; number++) {
            int one = number;
            refused("open, none waits", -2, () -> withAll(8), x -> x.take(one));
            refused("closed, none waits", -2, () -> new QuotaPeers(), x -> x.take(one));
        }
        QuotaPeers x = Scene.open();
        Check.feed(x, 1, Wire.request(999, 4294967295L, 0x80007FFFL));
        int[] due = {1, 0, 0, 60, 32, 0, 3, 231, 0, 0, 0, 0, 255, 255, 255, 255, 128, 0, 127, 255};
        for (int i = 0; i < 60; i++) {
            check.due("before octet " + i, x.waiting(1), 60 - i);
            int octet = x.take(1);
            if (i < due.length) {
                check.due("octet " + i, octet, due[i]);
            }
        }
        check.due("none waits", x.take(1), -2);
        check.due("still none", x.waiting(1), 0);
    }

    private static void waiting() {
        check.of("How many octets wait on a CONNECTION. -1 the number is not 1 .. 8.");
        for (int number : NO_NUMBERS) {
            refused("number " + number, -1, () -> withAll(8), x -> x.waiting(number));
        }
        for (int number = 1; number <= 8; number++) {
            check.due("closed", new QuotaPeers().waiting(number), 0);
            QuotaPeers x = withAll(8);
            check.due("open", x.waiting(number), 0);
            Check.feed(x, number, Wire.request(999, 1, 1));
            check.due("an answer, and closed", x.waiting(number), 60);
        }
    }

    private static void connection() {
        check.of("Of a CONNECTION: what = 0: 0 CLOSED, 1 ASKED, 2 OPEN; 1 the PEER whose it is (0);"
                + " 2: 1 it is the OWN one, 2 the CAME one, 0 none;"
                + " 3 how many octets of a MESSAGE are there that is not whole. -1 the number is not 1 .. 8, -2 no such what.");
        for (int number : NO_NUMBERS) {
            for (int what = -1; what <= 4; what++) {
                int one = what;
                refused("number " + number, -1, () -> withAll(8), x -> x.connection(number, one));
            }
        }
        int[] wrong = {LEAST_INT, -1, 4, 5, MOST_INT};
        for (int what : wrong) {
            refused("what " + what, -2, () -> withAll(8), x -> x.connection(8, what));
            refused("what " + what + " of a closed one", -2, () -> withAll(7), x -> x.connection(8, what));
        }
        int[][] due = {{0, 0, 0, 0, 0}, {1, 1, 1, 1, 0}, {2, 1, 2, 1, 0}, {3, 2, 2, 1, 0}, {4, 2, 2, 1, 0}, {5, 1, 2, 1, 0},
                {6, 1, 2, 1, 0}, {7, 1, 2, 1, 0}};
        int[] sides = {0, 1, 1, 2, 2, 2, 1, 2};
        for (int[] one : due) {
            QuotaPeers x = Scene.in(one[0], LATE);
            int c = one[0] == 0 ? 1 : one[1];
            check.due("state in " + one[0], x.connection(c, 0), one[2]);
            check.due("peer in " + one[0], x.connection(c, 1), one[3]);
            check.due("side in " + one[0], x.connection(c, 2), sides[one[0]]);
            check.due("octets in " + one[0], x.connection(c, 3), one[4]);
        }
        QuotaPeers x = Scene.open();
        byte[] longest = Wire.request(Wire.WATCH, 1, 1, Wire.attribute(9999, 0, new byte[572]));
        Check.feed(x, 1, Arrays.copyOf(longest, 599));
        check.due("599 octets", x.connection(1, 3), 599);
        Check.feed(x, 1, new byte[1]);
        check.due("whole", x.connection(1, 3), 0);
    }

    private static void state() {
        check.of("-1 there is none, -2 no such what.");
        int[] none = {LEAST_INT, -1, 0, 2, 3, 4, 5, MOST_INT};
        for (int p : none) {
            for (int what = -1; what <= 8; what++) {
                int one = what;
                refused("peer " + p, -1, () -> Scene.open(), x -> x.state(p, one));
            }
        }
        int[] wrong = {LEAST_INT, -1, 8, 9, MOST_INT};
        for (int what : wrong) {
            refused("what " + what, -2, () -> Scene.open(), x -> x.state(1, what));
        }
        check.of("what = 0 STATE, 1 the OWN CONNECTION (0), 2 the CAME one (0), 3 STATUS, 4 whether it is AWAITED,"
                + " 5 when the TIMER is due, 6 how often it was GIVEN OVER, 7 ANSWERS as BACK.");
        int[][] due = {{0, 0, 0, 0}, {1, 1, 0, 0}, {2, 1, 0, 0}, {3, 1, 2, 0}, {4, 1, 2, 0}, {5, 0, 1, 1}, {6, 1, 0, 1},
                {7, 0, 1, 3}};
        for (int[] one : due) {
            QuotaPeers x = Scene.in(one[0], LATE);
            for (int what = 0; what <= 3; what++) {
                check.due("what " + what + " in " + one[0], x.state(1, what), one[what]);
            }
            check.due("awaited", x.state(1, 4), 0);
            check.due("timer", x.state(1, 5), 30);
            check.due("given over", x.state(1, 6), one[0] == 7 ? 1 : 0);
            check.due("answers", x.state(1, 7), 0);
        }
    }

    private static QuotaPeers withAccounts(int count) {
        QuotaPeers x = new QuotaPeers();
        for (int i = 1; i <= count; i++) {
            x.account(i, 10);
        }
        return x;
    }

    private static void account() {
        check.of("A new ACCOUNT: how many there are. -2 the number or the balance is outside its range,"
                + " -3 there is one with this number, -4 there are 16.");
        for (int count = 0; count <= 16; count++) {
            int there = count;
            refused("number 0", -2, () -> withAccounts(there), x -> x.account(0, 1));
            refused("number 10^17", -2, () -> withAccounts(there), x -> x.account(100000000000000000L, 1));
            refused("balance -1", -2, () -> withAccounts(there), x -> x.account(1, -1));
            refused("balance 2^60 + 1", -2, () -> withAccounts(there), x -> x.account(1, MOST + 1));
            refused("both", -2, () -> withAccounts(there), x -> x.account(0, -1));
            if (count > 0) {
                refused("the first again", -3, () -> withAccounts(there), x -> x.account(1, 5));
                refused("the last again", -3, () -> withAccounts(there), x -> x.account(there, 5));
            }
            if (count == 16) {
                refused("a seventeenth", -4, () -> withAccounts(16), x -> x.account(17, 5));
            } else {
                check.due("another", withAccounts(count).account(count + 1, 5), count + 1);
            }
        }
    }

    private static void balance() {
        check.of("Of an ACCOUNT: what = 0 BALANCE, 1 RESERVED, 2 what was charged in all less what was given back."
                + " -1 there is none, -2 no such what.");
        long[] none = {Long.MIN_VALUE, -1, 0, 17, 1L << 32 | 1, Long.MAX_VALUE};
        for (long number : none) {
            for (int what = -1; what <= 3; what++) {
                int one = what;
                refused("number " + number, -1, () -> withAccounts(16), x -> x.balance(number, one));
            }
        }
        int[] wrong = {LEAST_INT, -1, 3, 4, MOST_INT};
        for (int what : wrong) {
            refused("what " + what, -2, () -> withAccounts(16), x -> x.balance(16, what));
        }
        QuotaPeers x = Scene.withAccount(MOST - 5);
        byte[] who = Wire.subscriber("120");
        Check.feed(x, 1, Wire.credit("s", 1, 4, 0, Wire.number(436, 0), who, Wire.wanted(7)));
        check.due("charged", x.balance(120, 2), 7);
        Check.feed(x, 1, Wire.credit("s", 2, 4, 0, Wire.number(436, 1), who, Wire.wanted(6)));
        check.due("less what was given back", x.balance(120, 2), 1);
        Check.feed(x, 1, Wire.credit("s", 3, 4, 0, Wire.number(436, 1), who, Wire.wanted(6)));
        check.due("below 0", x.balance(120, 2), -5);
        check.due("2^60", x.balance(120, 0), MOST);
        Check.feed(x, 1, Wire.credit("s", 4, 1, 0, who, Wire.wanted(MOST)));
        check.due("reserved", x.balance(120, 1), MOST);
        Check.feed(x, 1, Wire.credit("s", 5, 3, 1, Wire.used(MOST)));
        check.due("all charged", x.balance(120, 2), MOST - 5);
        check.due("none left", x.balance(120, 0) + x.balance(120, 1), 0);
    }

    private static void sessions() {
        check.of("How many SESSIONS there are.");
        QuotaPeers x = Scene.withAccount(5000);
        check.due("none", x.sessions(), 0);
        for (int i = 1; i <= 17; i++) {
            Check.feed(x, 1, Wire.credit("s" + i, i, 1, 0, Wire.subscriber("120"), Wire.wanted(1)));
            check.due("behind " + i, x.sessions(), Math.min(16, i));
        }
        x.gone(1);
        x.tick(599);
        check.due("599", x.sessions(), 16);
        x.tick(600);
        check.due("600", x.sessions(), 0);
    }

    private static void session() {
        check.of("Of SESSION k, from 0, in the order in which they were made: what = 0 how many octets its name has,"
                + " 1 the last COUNT (its 32 bits as an int), 2 the PEER by which its last CREDIT came, 3 when it ends."
                + " -1 there is none, -2 no such what.");
        int[] none = {LEAST_INT, -1, 1, 2, 16, MOST_INT};
        for (int k : none) {
            for (int what = -1; what <= 4; what++) {
                int one = what;
                refused("session " + k, -1, EdgesOfCallsTest::withSession, x -> x.session(k, one));
            }
        }
        int[] wrong = {LEAST_INT, -1, 4, 5, MOST_INT};
        for (int what : wrong) {
            refused("what " + what, -2, EdgesOfCallsTest::withSession, x -> x.session(0, what));
        }
        int[] lengths = {1, 2, 39, 40};
        long[] counts = {0, 1, 2147483647L, 2147483648L, 4294967295L};
        for (int length : lengths) {
            for (long count : counts) {
                QuotaPeers x = withSession();
                x.tick(9);
                Check.feed(x, 2, Wire.credit("n".repeat(length), 60, 1, count, Wire.subscriber("120")));
                check.due("octets", x.session(1, 0), length);
                check.due("count", x.session(1, 1), (int) count);
                check.due("peer", x.session(1, 2), 2);
                check.due("ends", x.session(1, 3), 609);
                check.due("the first stays", x.session(0, 3), 600);
            }
        }
    }

    private static void granted() {
        check.of("The GRANT of SESSION k. -1 there is none.");
        int[] none = {LEAST_INT, -1, 1, 2, MOST_INT};
        for (int k : none) {
            refused("session " + k, -1, EdgesOfCallsTest::withSession, x -> x.granted(k));
        }
        refused("none at all", -1, () -> Scene.open(), x -> x.granted(0));
        long[] grants = {0, 1, 4294967296L, MOST - 1, MOST};
        for (long grant : grants) {
            QuotaPeers x = Scene.withAccount(MOST);
            Check.feed(x, 1, Wire.credit("s", 50, 1, 0, Wire.subscriber("120"), Wire.wanted(grant)));
            check.due("grant", x.granted(0), grant);
        }
    }

    private static void ask() {
        check.of("An ASK for SESSION k: its number, from 0 on. -1 there is no such SESSION, -3 no PEER is USABLE,"
                + " -4 there were 64.");
        int[] none = {LEAST_INT, -1, 1, 16, MOST_INT};
        for (int k : none) {
            refused("session " + k, -1, EdgesOfCallsTest::withSession, x -> x.ask(k));
        }
        refused("no peer is usable", -3, () -> {
            QuotaPeers x = withSession();
            x.gone(1);
            x.gone(2);
            return x;
        }, x -> x.ask(0));
        QuotaPeers x = withSession();
        for (int i = 0; i < 64; i++) {
            check.due("ask", x.ask(0), i);
        }
        check.due("a 65th", x.ask(0), -4);
        check.due("none was made", x.asked(64, 0), -1);
        check.due("the last", x.asked(63, 3), 64);
        check.due("-1 before -4", x.ask(1), -1);
        Check.feed(x, 1, Wire.reply(Wire.ASK, 64, 2001, "a"));
        check.due("one that is answered makes no room", x.ask(0), -4);
        x.gone(1);
        check.due("another peer", x.ask(0), -4);
        x.gone(2);
        check.due("-3 before -4", x.ask(0), -3);
    }

    private static QuotaPeers withAsk() {
        QuotaPeers x = withSession();
        x.ask(0);
        return x;
    }

    private static void asked() {
        check.of("Of an ASK: what = 0 its RESULT (its 32 bits as an int; 0 when there is none yet),"
                + " 1 the PEER by which it was sent last, 2 how often it was sent, 3 the HOP, 4 the END."
                + " -1 there is none, -2 no such what.");
        int[] none = {LEAST_INT, -1, 1, 63, 64, MOST_INT};
        for (int i : none) {
            for (int what = -1; what <= 5; what++) {
                int one = what;
                refused("ask " + i, -1, EdgesOfCallsTest::withAsk, x -> x.asked(i, one));
            }
        }
        int[] wrong = {LEAST_INT, -1, 5, 6, MOST_INT};
        for (int what : wrong) {
            refused("what " + what, -2, EdgesOfCallsTest::withAsk, x -> x.asked(0, what));
        }
        QuotaPeers x = withAsk();
        int[] due = {0, 1, 1, 1, 1};
        int[] again = {0, 2, 2, 2, 1};
        int[] over = {3002, 2, 2, 2, 1};
        for (int what = 0; what <= 4; what++) {
            check.due("what " + what, x.asked(0, what), due[what]);
        }
        x.gone(1);
        for (int what = 0; what <= 4; what++) {
            check.due("again, what " + what, x.asked(0, what), again[what]);
        }
        x.gone(2);
        for (int what = 0; what <= 4; what++) {
            check.due("over, what " + what, x.asked(0, what), over[what]);
        }
        QuotaPeers y = withAsk();
        Check.feed(y, 1, Wire.reply(Wire.ASK, 1, 2147483648L, "a"));
        check.due("32 bits", y.asked(0, 0), LEAST_INT);
    }

    private static void kept() {
        check.of("How many ANSWERS are KEPT now.");
        QuotaPeers x = Scene.withAccount(5000);
        check.due("none", x.kept(), 0);
        for (int i = 1; i <= 34; i++) {
            Check.feed(x, 1, Wire.credit("s", i, 2, 0));
            check.due("behind " + i, x.kept(), Math.min(32, i));
        }
        x.tick(239);
        check.due("239", x.kept(), 32);
        x.tick(240);
        check.due("240", x.kept(), 0);
        QuotaPeers y = Scene.withAccount(5000);
        Check.feed(y, 1, Wire.credit("s", 1, 2, 0));
        y.tick(1);
        Check.feed(y, 1, Wire.credit("s", 2, 2, 0));
        y.tick(240);
        check.due("one of two", y.kept(), 1);
        y.tick(241);
        check.due("none of two", y.kept(), 0);
    }

    private static void lost() {
        check.of("How many MESSAGES were LOST: those told above, and those of the NODE that had no room.");
        QuotaPeers x = Scene.withPeer(EARLY);
        Scene.come(x, EARLY);
        for (int i = 0; i < 31; i++) {
            Check.feed(x, 1, Wire.request(999, 1, 1));
        }
        check.due("1972 wait", x.waiting(1), 112 + 31 * 60);
        check.due("none", x.lost(), 0);
        Check.feed(x, 1, Wire.request(999, 1, 1));
        check.due("an answer without room", x.lost(), 1);
        Check.feed(x, 1, Wire.reply(Wire.WATCH, 1, 2001, EARLY));
        check.due("an answer to nothing", x.lost(), 2);
        x.gone(1);
        check.due("not by going", x.lost(), 2);
        x.accept();
        check.due("nor by a number that is given anew", x.lost(), 2);
        Check.feed(x, 1, Wire.watch(EARLY, 1));
        check.due("by which a connection is closed", x.lost(), 3);
        x.accept();
        x.feed(1, 0, 0, 0, 0, 4);
        check.due("not one that breaks off", x.lost(), 3);
        x.accept();
        x.feed(1, 0x0100001480000118L, 0, 0, 0, 19);
        x.gone(1);
        check.due("nor one that is not whole", x.lost(), 3);
    }

    private static void firstThatFits() {
        check.of("-1 there is no such thing, -2 outside the range, -3 not in this state, -4 no room; the first that fits.");
        refused("own: -2, -3", -2, () -> Scene.withPeer(EARLY), QuotaPeers::own);
        refused("peer: -2, -4", -2, () -> named(4, ""), x -> x.peer(false));
        refused("peer: -3, -4", -3, () -> named(4, "m.home"), x -> x.peer(false));
        refused("sign: -2, -4", -2, () -> signed("n".repeat(40)), x -> x.sign(0x6141));
        refused("start: -1, -4", -1, () -> withAll(8), x -> x.start(2));
        refused("start: -3, -4", -3, () -> {
            QuotaPeers x = withAll(7);
            x.start(1);
            return x;
        }, x -> x.start(1));
        refused("feed: -1, -2", -1, () -> withAll(7), x -> x.feed(8, 0, 0, 0, 0, 33));
        refused("stop: -1, -2", -1, () -> Scene.open(), x -> x.stop(2, -1));
        refused("stop: -2, -3", -2, () -> Scene.withPeer(EARLY), x -> x.stop(1, -1));
        refused("connection: -1, -2", -1, () -> withAll(8), x -> x.connection(9, 4));
        refused("state: -1, -2", -1, () -> Scene.open(), x -> x.state(2, 8));
        refused("account: -2, -3", -2, () -> withAccounts(1), x -> x.account(1, -1));
        refused("account: -3, -4", -3, () -> withAccounts(16), x -> x.account(16, 0));
        refused("account: -2, -4", -2, () -> withAccounts(16), x -> x.account(17, -1));
        refused("balance: -1, -2", -1, () -> withAccounts(16), x -> x.balance(17, 3));
        refused("session: -1, -2", -1, EdgesOfCallsTest::withSession, x -> x.session(1, 4));
        refused("asked: -1, -2", -1, EdgesOfCallsTest::withAsk, x -> x.asked(1, 5));
        refused("ask: -1, -3", -1, () -> {
            QuotaPeers x = withSession();
            x.gone(1);
            x.gone(2);
            return x;
        }, x -> x.ask(1));
    }
}
