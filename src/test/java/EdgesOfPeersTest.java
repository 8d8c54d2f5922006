/** Terms, PEERS by STATES: each sentence that names a boundary has a test of its own, at it and on both sides. */
public final class EdgesOfPeersTest {
    private static final Check check = new Check();
    private static final String EARLY = Scene.EARLY;
    private static final String LATE = Scene.LATE;
    private static final byte[] NODE = Wire.origin("m.home", "home");

    public static void main(String[] args) {
        fourPeers();
        oneOwnAndOneCame();
        closed();
        waiting();
        asking();
        askingByAnother();
        askingAndCame();
        both();
        bothRefused();
        answeredLater();
        choosing();
        choosingAnswered();
        choosingCameGone();
        choosingByAnother();
        open();
        openEnds();
        ending();
        endingPassesOver();
        choice();
        notAnsweredYet();
        tenSeconds();
        tenSecondsAnew();
        noTenSeconds();
        messagesWhenOpen();
        check.end("EdgesOfPeersTest");
    }

    private static void state(QuotaPeers x, String when, int state, int own, int came) {
        check.due(when + ": state", x.state(1, 0), state);
        check.due(when + ": own", x.state(1, 1), own);
        check.due(when + ": came", x.state(1, 2), came);
        check.due(when + ": own open", own == 0 ? 0 : x.connection(own, 2), own == 0 ? 0 : 1);
        check.due(when + ": came open", came == 0 ? 0 : x.connection(came, 2), came == 0 ? 0 : 2);
    }

    private static void fourPeers() {
        check.of("PEERS (1 .. 4) have a HOST");
        QuotaPeers x = new QuotaPeers();
        for (int p = 1; p <= 4; p++) {
            check.due("not yet", x.state(p, 0), -1);
            check.due("peer", Check.peer(x, Scene.name(p), false), p);
            check.due("now", x.state(p, 0), 0);
        }
        check.due("a fifth", Check.peer(x, "e", false), -4);
        int[] none = {Integer.MIN_VALUE, -1, 0, 5, 6, Integer.MAX_VALUE};
        for (int p : none) {
            check.due("state of " + p, x.state(p, 0), -1);
            check.due("start of " + p, x.start(p), -1);
            check.due("stop of " + p, x.stop(p, 0), -1);
        }
        for (int p = 4; p >= 1; p--) {
            int c = Scene.come(x, Scene.name(p));
            check.due("each by its host", x.connection(c, 1), p);
        }
    }

    private static void oneOwnAndOneCame() {
        check.of("At most one OWN and one CAME CONNECTION.");
        for (int state = 0; state <= 7; state++) {
            QuotaPeers x = Scene.in(state, LATE);
            int own = x.state(1, 1);
            int came = x.state(1, 2);
            check.due("another own one in " + state, x.start(1), state == 0 ? 1 : -3);
            check.due("own", x.state(1, 1), state == 0 ? 1 : own);
            int c = Scene.come(x, LATE);
            boolean taken = state <= 2;
            check.due("another came one in " + state, x.state(1, 2), taken ? c : came);
            check.due("it is open or closed", x.connection(c, 0), taken ? 2 : 0);
        }
    }

    private static void closed() {
        check.of("0: start() asks for an OWN CONNECTION: 1. A CAME one: answered with 2001: 5.");
        QuotaPeers x = Scene.in(0, EARLY);
        check.due("start", x.start(1), 1);
        state(x, "started", 1, 1, 0);
        check.due("asked for", x.connection(1, 0), 1);
        check.due("nothing is sent", x.waiting(1), 0);
        QuotaPeers y = Scene.in(0, EARLY);
        Scene.come(y, EARLY);
        state(y, "came", 5, 0, 1);
        check.due("answered", Check.take(y, 1), Scene.welcome(1));
    }

    private static void waiting() {
        check.of("1: the OWN one is OPEN: an OPENING is sent on it: 2. It is refused: 0. A CAME one (not answered yet): 3.");
        QuotaPeers x = Scene.in(1, EARLY);
        check.due("on", x.connected(1, true), 1);
        state(x, "open", 2, 1, 0);
        check.due("the opening", Check.take(x, 1), Wire.request(Wire.OPENING, 1, 1, NODE, Wire.introduction()));
        QuotaPeers y = Scene.in(1, EARLY);
        check.due("refused", y.connected(1, false), 1);
        state(y, "refused", 0, 0, 0);
        QuotaPeers z = Scene.in(1, EARLY);
        Scene.come(z, EARLY);
        state(z, "came", 3, 1, 2);
        check.due("not answered yet", z.waiting(2), 0);
    }

    private static void asking() {
        check.of("2: the ANSWER to the OPENING, not WRONG, with RESULT 2001 and the HOST of the PEER: 6");
        long[] results = {0, 1, 2000, 2001, 2002, 2001 | 1L << 31, 4294967295L};
        for (long result : results) {
            QuotaPeers x = Scene.in(2, EARLY);
            Check.feed(x, 1, Wire.reply(Wire.OPENING, 1, result, EARLY));
            boolean right = result == 2001;
            state(x, "result " + result, right ? 6 : 0, right ? 1 : 0, 0);
            check.due("lost with " + result, x.lost(), right ? 0 : 1);
        }
        String[] hosts = {"a.", "a.b", "a.bb", "a.c", "m.home", "A.b"};
        for (String host : hosts) {
            QuotaPeers x = Scene.in(2, EARLY);
            Check.feed(x, 1, Wire.reply(Wire.OPENING, 1, 2001, host));
            check.due("host " + host, x.state(1, 0), host.equals(EARLY) ? 6 : 0);
        }
        QuotaPeers x = Scene.in(2, "n".repeat(40));
        Check.feed(x, 1, Wire.reply(Wire.OPENING, 1, 2001, "n".repeat(40)));
        check.due("a host of 40", x.state(1, 0), 6);
        check.due("nothing is sent then", x.waiting(1), 0);
    }

    private static void askingByAnother() {
        check.of("any other MESSAGE on the OWN one: it is CLOSED: 0.");
        byte[][] others = {Wire.opening(EARLY, 1, 1), Wire.watch(EARLY, 1), Wire.ending(EARLY, 1), Wire.credit("s", 1, 1, 0),
                Wire.request(999, 1, 1), Wire.reply(Wire.WATCH, 1, 2001, EARLY), Wire.reply(Wire.OPENING, 0, 2001, EARLY),
                Wire.reply(Wire.OPENING, 2, 2001, EARLY), Wire.message(1, 0, 257, 0, 1, 1)};
        for (int i = 0; i < others.length; i++) {
            QuotaPeers x = Scene.in(2, EARLY);
            check.due("done", Check.feed(x, 1, others[i]), 1);
            state(x, "another " + i, 0, 0, 0);
            check.due("closed", x.connection(1, 0), 0);
            check.due("not answered", x.waiting(1), 0);
            check.due("lost", x.lost(), 1);
        }
    }

    private static void askingAndCame() {
        check.of("A CAME one: the CHOICE: 4. The OWN one is gone: 0.");
        QuotaPeers x = Scene.in(2, LATE);
        Scene.come(x, LATE);
        state(x, "the node is not the later one", 4, 1, 2);
        check.due("not answered", x.waiting(2), 0);
        QuotaPeers y = Scene.in(2, EARLY);
        Scene.come(y, EARLY);
        state(y, "the node is the later one", 5, 0, 2);
        check.due("answered", Check.take(y, 2), Scene.welcome(2));
        QuotaPeers z = Scene.in(2, EARLY);
        z.gone(1);
        state(z, "gone", 0, 0, 0);
    }

    private static void both() {
        check.of("3: the OWN one is OPEN: an OPENING is sent on it, and the CHOICE: 4.");
        QuotaPeers x = Scene.in(3, LATE);
        x.connected(1, true);
        state(x, "the node is not the later one", 4, 1, 2);
        check.due("the opening", Check.take(x, 1), Wire.request(Wire.OPENING, 1, 1, NODE, Wire.introduction()));
        check.due("not answered", x.waiting(2), 0);
        QuotaPeers y = Scene.in(3, EARLY);
        y.connected(1, true);
        state(y, "the node is the later one", 5, 0, 2);
        check.due("own closed", y.connection(1, 0), 0);
        check.due("the opening was sent", Check.take(y, 1), Wire.request(Wire.OPENING, 1, 1, NODE, Wire.introduction()));
        check.due("answered", Check.take(y, 2), Scene.welcome(2));
        y.stop(1, 1);
        check.due("it had a hop", Check.take(y, 2), Wire.request(Wire.ENDING, 2, 2, NODE, Wire.number(273, 1)));
    }

    private static void bothRefused() {
        check.of("It is refused: the CAME one is answered with 2001: 5. The CAME one is gone: 1."
                + " Another one that came: answered with 3004, and CLOSED.");
        QuotaPeers x = Scene.in(3, LATE);
        x.connected(1, false);
        state(x, "refused", 5, 0, 2);
        check.due("answered", Check.take(x, 2), Scene.welcome(2));
        QuotaPeers y = Scene.in(3, LATE);
        y.gone(1);
        state(y, "the own one is gone, as if refused", 5, 0, 2);
        check.due("answered", Check.take(y, 2), Scene.welcome(2));
        QuotaPeers z = Scene.in(3, LATE);
        z.gone(2);
        state(z, "the came one is gone", 1, 1, 0);
        check.due("asked for still", z.connection(1, 0), 1);
        for (int state = 3; state <= 7; state++) {
            QuotaPeers w = Scene.in(state, LATE);
            int own = w.state(1, 1);
            int came = w.state(1, 2);
            int c = Scene.come(w, LATE);
            check.due("another in " + state, Check.take(w, c), Wire.answer(32, Wire.OPENING, 70 + c, 80 + c, 3004));
            check.due("closed", w.connection(c, 0), 0);
            state(w, "stays in " + state, state, own, came);
            check.due("not lost", w.lost(), 0);
        }
    }

    private static void answeredLater() {
        check.of("A CAME one (not answered yet): 3.");
        int[] flags = {0, 16, 64, 80};
        for (int flag : flags) {
            QuotaPeers x = Scene.in(1, LATE);
            x.accept();
            Check.feed(x, 2, Wire.message(1, 128 | flag, Wire.OPENING, 0, 4294967295L, 2147483648L, Wire.origin(LATE, "r"),
                    Wire.number(258, 4)));
            check.due("not yet", x.waiting(2), 0);
            x.gone(1);
            check.due("as if it came now", Check.take(x, 2), Wire.answer(flag & 64, Wire.OPENING, 4294967295L, 2147483648L,
                    2001, Wire.introduction()));
        }
    }

    private static void choosing() {
        check.of("4: the OWN one is gone: the CAME one is answered with 2001: 5.");
        QuotaPeers x = Scene.in(4, LATE);
        x.gone(1);
        state(x, "own gone", 5, 0, 2);
        check.due("answered", Check.take(x, 2), Scene.welcome(2));
        check.due("none lost", x.lost(), 0);
    }

    private static void choosingAnswered() {
        check.of("The ANSWER to the OPENING, as in 2: the CAME one is CLOSED: 6.");
        long[] results = {2000, 2001, 2002};
        for (long result : results) {
            QuotaPeers x = Scene.in(4, LATE);
            Check.feed(x, 1, Wire.reply(Wire.OPENING, 1, result, LATE));
            boolean right = result == 2001;
            state(x, "result " + result, right ? 6 : 5, right ? 1 : 0, right ? 0 : 2);
            check.due("came", x.connection(2, 0), right ? 0 : 2);
            check.due("own", x.connection(1, 0), right ? 2 : 0);
            check.due("the came one is answered", x.waiting(2), right ? 0 : 112);
        }
        long[] hops = {0, 1, 2};
        for (long hop : hops) {
            QuotaPeers x = Scene.in(4, LATE);
            Check.feed(x, 1, Wire.reply(Wire.OPENING, hop, 2001, LATE));
            check.due("hop " + hop, x.state(1, 0), hop == 1 ? 6 : 5);
        }
        QuotaPeers x = Scene.in(4, LATE);
        Check.feed(x, 1, Wire.reply(Wire.OPENING, 1, 2001, "zz"));
        check.due("another host", x.state(1, 0), 5);
    }

    private static void choosingCameGone() {
        check.of("The CAME one is gone: 2.");
        QuotaPeers x = Scene.in(4, LATE);
        x.gone(2);
        state(x, "came gone", 2, 1, 0);
        check.due("no second opening", x.waiting(1), 0);
        Check.feed(x, 1, Wire.reply(Wire.OPENING, 1, 2001, LATE));
        state(x, "answered", 6, 1, 0);
        QuotaPeers y = Scene.in(4, LATE);
        y.gone(2);
        Scene.come(y, LATE);
        state(y, "another came", 4, 1, 2);
        y.gone(1);
        check.due("the one that is there is answered", Check.take(y, 2), Scene.welcome(2));
    }

    private static void choosingByAnother() {
        check.of("Any other MESSAGE on the OWN one: as if it were gone, and it is CLOSED.");
        byte[][] others = {Wire.opening(LATE, 1, 1), Wire.watch(LATE, 1), Wire.request(999, 1, 1),
                Wire.reply(Wire.WATCH, 1, 2001, LATE), Wire.message(1, 0, 257, 0, 1, 1)};
        for (int i = 0; i < others.length; i++) {
            QuotaPeers x = Scene.in(4, LATE);
            check.due("done", Check.feed(x, 1, others[i]), 1);
            state(x, "another " + i, 5, 0, 2);
            check.due("closed", x.connection(1, 0), 0);
            check.due("not answered", x.waiting(1), 0);
            check.due("lost", x.lost(), 1);
            check.due("the came one is", Check.take(x, 2), Scene.welcome(2));
        }
    }

    private static void open() {
        check.of("5, 6: another one that came: as in 3. The CONNECTION is gone: 0.");
        for (int state = 5; state <= 6; state++) {
            QuotaPeers x = Scene.in(state, LATE);
            int c = Scene.come(x, LATE);
            check.due("another", Check.take(x, c), Wire.answer(32, Wire.OPENING, 70 + c, 80 + c, 3004));
            check.due("it stays", x.state(1, 0), state);
            x.gone(1);
            state(x, "gone", 0, 0, 0);
        }
    }

    private static void openEnds() {
        check.of("stop(): an ENDING is sent: 7. An ENDING comes: answered with 2001: 7.");
        for (int state = 5; state <= 6; state++) {
            QuotaPeers x = Scene.in(state, LATE);
            int hop = state == 5 ? 1 : 2;
            check.due("stop", x.stop(1, 2), 1);
            state(x, "stopped", 7, state == 6 ? 1 : 0, state == 5 ? 1 : 0);
            check.due("the ending", Check.take(x, 1), Wire.request(Wire.ENDING, hop, hop, NODE, Wire.number(273, 2)));
            QuotaPeers y = Scene.in(state, LATE);
            Check.feed(y, 1, Wire.ending(LATE, 9));
            state(y, "an ending came", 7, state == 6 ? 1 : 0, state == 5 ? 1 : 0);
            check.due("answered", Check.take(y, 1), Wire.answer(0, Wire.ENDING, 9, 9, 2001));
            check.due("none of the node's", y.waiting(1), 0);
        }
        long[] causes = {0, 2, 3, 4294967295L};
        for (long cause : causes) {
            QuotaPeers x = Scene.open();
            Check.feed(x, 1, Wire.request(Wire.ENDING, 9, 9, Wire.origin("q", "r"), Wire.number(273, cause)));
            check.due("any cause and host", x.state(1, 0), 7);
        }
    }

    private static void ending() {
        check.of("7: the ANSWER to the NODE's ENDING, not WRONG, or the CONNECTION is gone: it is CLOSED: 0.");
        long[] hops = {0, 1, 2};
        for (long hop : hops) {
            QuotaPeers x = Scene.in(7, LATE);
            Check.feed(x, 1, Wire.reply(Wire.ENDING, hop, 2001, LATE));
            check.due("hop " + hop, x.state(1, 0), hop == 1 ? 0 : 7);
            check.due("connection", x.connection(1, 0), hop == 1 ? 0 : 2);
            check.due("lost", x.lost(), hop == 1 ? 0 : 1);
        }
        QuotaPeers x = Scene.in(7, LATE);
        Check.feed(x, 1, Wire.reply(Wire.ENDING, 1, 0, "other"));
        check.due("any result and host", x.state(1, 0), 0);
        QuotaPeers y = Scene.in(7, LATE);
        Check.feed(y, 1, Wire.message(1, 0, Wire.ENDING, 0, 1, 1, Wire.number(268, 2001), Wire.text(264, LATE)));
        check.due("wrong", y.state(1, 0), 7);
        y.gone(1);
        state(y, "gone", 0, 0, 0);
        // An ENDING that the PEER sent has no ANSWER to be waited for.
        QuotaPeers z = Scene.open();
        Check.feed(z, 1, Wire.ending(EARLY, 9));
        for (long hop : hops) {
            Check.feed(z, 1, Wire.reply(Wire.ENDING, hop, 2001, EARLY));
        }
        check.due("the peer's ending", z.state(1, 0), 7);
        check.due("lost", z.lost(), 3);
        check.due("given over once", z.state(1, 6), 1);
        z.gone(1);
        check.due("and not again", z.state(1, 6), 1);
        // Nor is one that the node sent a time before the one that is waited for.
        QuotaPeers w = Scene.in(7, LATE);
        w.gone(1);
        Scene.come(w, LATE);
        Check.feed(w, 1, Wire.ending(LATE, 9));
        Check.feed(w, 1, Wire.reply(Wire.ENDING, 1, 2001, LATE));
        check.due("an ending of a time before", w.state(1, 0), 7);
    }

    private static void endingPassesOver() {
        check.of("All other MESSAGES are passed over, LOST.");
        byte[][] others = {Wire.opening(LATE, 1, 1), Wire.watch(LATE, 1), Wire.ending(LATE, 1), Wire.credit("s", 1, 1, 0),
                Wire.request(999, 1, 1), Wire.message(9, 128, 280, 0, 1, 1), Wire.reply(Wire.WATCH, 1, 2001, LATE),
                Wire.reply(Wire.OPENING, 1, 2001, LATE), Wire.reply(Wire.ASK, 1, 2001, LATE)};
        for (int i = 0; i < others.length; i++) {
            QuotaPeers x = Scene.in(7, LATE);
            check.due("done", Check.feed(x, 1, others[i]), 1);
            check.due("passed over " + i, x.state(1, 0), 7);
            check.due("not answered", x.waiting(1), 0);
            check.due("lost", x.lost(), 1);
            check.due("not kept", x.kept(), 0);
            check.due("still open", x.connection(1, 0), 2);
        }
    }

    private static void choice() {
        check.of("CHOICE: when the NODE's HOST is the later one of the two, the OWN CONNECTION is CLOSED,"
                + " the CAME one answered with 2001: 5.");
        String[] before = {"m.hom", "m.homd", "m.homdz", "m.a", "m-home", "l", "0"};
        String[] behind = {"m.home-", "m.homea", "m.homf", "m.z", "m0", "n", "z"};
        for (int i = 0; i < before.length; i++) {
            for (int state = 2; state <= 3; state++) {
                QuotaPeers x = Scene.in(state, before[i]);
                QuotaPeers y = Scene.in(state, behind[i]);
                if (state == 2) {
                    Scene.come(x, before[i]);
                    Scene.come(y, behind[i]);
                } else {
                    x.connected(1, true);
                    y.connected(1, true);
                }
                state(x, "the node is later than " + before[i], 5, 0, 2);
                check.due("own closed", x.connection(1, 0), 0);
                check.due("answered", Check.take(x, 2), Scene.welcome(2));
                state(y, "the node is not later than " + behind[i], 4, 1, 2);
                check.due("own open", y.connection(1, 0), 2);
                check.due("not answered", y.waiting(2), 0);
            }
        }
    }

    private static void notAnsweredYet() {
        check.of("(MESSAGES on a CAME one that is not answered yet are passed over, LOST.)");
        byte[][] any = {Wire.opening(LATE, 1, 1), Wire.watch(LATE, 1), Wire.ending(LATE, 1), Wire.credit("s", 1, 1, 0),
                Wire.request(999, 1, 1), Wire.reply(Wire.OPENING, 1, 2001, LATE), Wire.message(2, 0, 1, 0, 1, 1)};
        for (int state = 3; state <= 4; state++) {
            for (int i = 0; i < any.length; i++) {
                QuotaPeers x = Scene.in(state, LATE);
                check.due("done", Check.feed(x, 2, any[i]), 1);
                state(x, "message " + i + " in " + state, state, 1, 2);
                check.due("not answered", x.waiting(2), 0);
                check.due("lost", x.lost(), 1);
                x.gone(1);
                check.due("the first opening is answered", Check.take(x, 2), Scene.welcome(2));
            }
        }
    }

    private static void tenSeconds() {
        check.of("In 1, 2, 3, 4, 7 a PEER is given 10 seconds from when it came into that STATE:"
                + " then its CONNECTIONS are CLOSED: 0.");
        int[] states = {1, 2, 3, 4, 7};
        for (int state : states) {
            QuotaPeers x = Scene.in(state, LATE);
            check.due("9 seconds in " + state, x.tick(9), 0);
            check.due("still", x.state(1, 0), state);
            check.due("10 seconds in " + state, x.tick(10), 1);
            state(x, "over", 0, 0, 0);
            check.due("closed", x.connection(1, 0) + x.connection(2, 0), 0);
            check.due("not answered", x.waiting(2), 0);
            check.due("none lost", x.lost(), 0);
            check.due("11 seconds", x.tick(11), 0);
            QuotaPeers y = Scene.in(state, LATE);
            check.due("at once", y.tick(11), 1);
            check.due("over", y.state(1, 0), 0);
        }
    }

    private static void over(QuotaPeers x, String when, int state, int second) {
        check.due(when + ": state", x.state(1, 0), state);
        check.due(when + ": one before", x.tick(second - 1), 0);
        check.due(when + ": still", x.state(1, 0), state);
        check.due(when + ": then", x.tick(second), 1);
        check.due(when + ": over", x.state(1, 0), 0);
    }

    private static void tenSecondsAnew() {
        check.of("10 seconds from when it came into that STATE");
        QuotaPeers x = Scene.in(0, LATE);
        x.tick(4);
        x.start(1);
        over(x, "0 to 1", 1, 14);
        x = Scene.in(1, LATE);
        x.tick(9);
        x.connected(1, true);
        over(x, "1 to 2", 2, 19);
        x = Scene.in(1, LATE);
        x.tick(9);
        Scene.come(x, LATE);
        over(x, "1 to 3", 3, 19);
        x = Scene.in(2, LATE);
        x.tick(9);
        Scene.come(x, LATE);
        over(x, "2 to 4", 4, 19);
        x = Scene.in(3, LATE);
        x.tick(9);
        x.connected(1, true);
        over(x, "3 to 4", 4, 19);
        x = Scene.in(3, LATE);
        x.tick(9);
        x.gone(2);
        over(x, "3 to 1", 1, 19);
        x = Scene.in(4, LATE);
        x.tick(9);
        x.gone(2);
        over(x, "4 to 2", 2, 19);
        x = Scene.in(5, LATE);
        x.tick(9);
        x.stop(1, 0);
        over(x, "5 to 7", 7, 19);
        x = Scene.in(6, LATE);
        x.tick(9);
        Check.feed(x, 1, Wire.ending(LATE, 4));
        over(x, "6 to 7", 7, 19);
        // What does not bring it into another state gives no new seconds.
        x = Scene.in(3, LATE);
        x.tick(9);
        Scene.come(x, LATE);
        Check.feed(x, 2, Wire.watch(LATE, 1));
        check.due("3 stays 3", x.tick(10), 1);
        x = Scene.in(7, LATE);
        x.tick(9);
        Check.feed(x, 1, Wire.watch(LATE, 1));
        check.due("7 stays 7", x.tick(10), 1);
    }

    private static void noTenSeconds() {
        check.of("In 1, 2, 3, 4, 7 a PEER is given 10 seconds");
        int[] states = {0, 5, 6};
        for (int state : states) {
            QuotaPeers x = Scene.in(state, LATE);
            check.due("none is due in " + state, x.tick(29), 0);
            check.due("it stays", x.state(1, 0), state);
        }
        QuotaPeers x = Scene.in(2, LATE);
        x.tick(9);
        Check.feed(x, 1, Wire.reply(Wire.OPENING, 1, 2001, LATE));
        check.due("2 to 6: none is due", x.tick(38), 0);
        check.due("6", x.state(1, 0), 6);
        QuotaPeers y = Scene.in(4, LATE);
        y.tick(9);
        y.gone(1);
        check.due("4 to 5: none is due", y.tick(38), 0);
        check.due("5", y.state(1, 0), 5);
        QuotaPeers z = Scene.in(1, LATE);
        z.tick(9);
        z.gone(1);
        check.due("1 to 0: none is due", z.tick(29), 0);
    }

    private static void messagesWhenOpen() {
        check.of("In 5, 6 a MESSAGE: an OPENING is answered with 5012; a WATCH with 2001; a CREDIT as below;"
                + " an ANSWER to a WATCH or to an ASK as below, other ANSWERS and WRONG ones are LOST;"
                + " a REQUEST that is WRONG is answered so.");
        for (int state = 5; state <= 6; state++) {
            answeredIn(state, Wire.opening(LATE, 5, 6), Wire.answer(0, Wire.OPENING, 5, 6, 5012), 0);
            answeredIn(state, Wire.opening(EARLY, 5, 6), Wire.answer(0, Wire.OPENING, 5, 6, 5012), 0);
            answeredIn(state, Wire.watch(LATE, 5), Wire.answer(0, Wire.WATCH, 5, 5, 2001, Wire.number(278, 1)), 0);
            answeredIn(state, Wire.watch("any", 5), Wire.answer(0, Wire.WATCH, 5, 5, 2001, Wire.number(278, 1)), 0);
            answeredIn(state, Wire.credit("s", 5, 2, 0), Wire.creditAnswer("s", 5, 5002, 2, 0), 0);
            answeredIn(state, Wire.request(999, 5, 6), Wire.answer(32, 999, 5, 6, 3001), 0);
            answeredIn(state, Wire.request(Wire.ENDING, 5, 6), Wire.answer(0, 282, 5, 6, 5005, Wire.failed(264)), 0);
            answeredIn(state, Wire.reply(Wire.OPENING, 1, 2001, LATE), new byte[0], 1);
            answeredIn(state, Wire.reply(Wire.WATCH, 1, 2001, LATE), new byte[0], 1);
            answeredIn(state, Wire.reply(Wire.ASK, 1, 2001, LATE), new byte[0], 1);
            answeredIn(state, Wire.reply(Wire.ENDING, 1, 2001, LATE), new byte[0], 1);
            answeredIn(state, Wire.reply(Wire.CREDIT, 1, 2001, LATE), new byte[0], 1);
            answeredIn(state, Wire.message(1, 0, Wire.WATCH, 0, 1, 1), new byte[0], 1);
            answeredIn(state, Wire.message(2, 0, 999, 0, 1, 1), new byte[0], 1);
        }
    }

    private static void answeredIn(int state, byte[] message, byte[] answer, int lost) {
        QuotaPeers x = Scene.in(state, LATE);
        check.due("done", Check.feed(x, 1, message), 1);
        check.due("answered in " + state, Check.take(x, 1), answer);
        check.due("lost in " + state, x.lost(), lost);
        check.due("it stays", x.state(1, 0), state);
    }
}
