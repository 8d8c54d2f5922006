/** Promises 5 to 11 and 16 by the STATES of PEERS, with the CHOICE and the 10 seconds. */
public final class PeersTest {
    private static final Check check = new Check();
    /** "a.b" is before the node's name, "z" is behind it. */
    private static final String EARLY = "a.b";
    private static final String LATE = "z";

    public static void main(String[] args) {
        strangeOnes();
        openingsThatAreRefused();
        openByCame();
        openByOwn();
        askingEnds();
        both();
        choosing();
        choiceWhenAsking();
        laterNames();
        anotherOneCame();
        endings();
        tenSeconds();
        whatIsAsked();
        check.end("PeersTest");
    }

    private static QuotaPeers withPeer(String name) {
        QuotaPeers x = new QuotaPeers();
        Check.peer(x, name, false);
        return x;
    }

    private static void state(QuotaPeers x, String when, int state, int own, int came) {
        check.due(when + ": state", x.state(1, 0), state);
        check.due(when + ": own", x.state(1, 1), own);
        check.due(when + ": came", x.state(1, 2), came);
    }

    private static int accept(QuotaPeers x, String name) {
        int c = x.accept();
        Check.feed(x, c, Wire.opening(name, 70 + c, 80 + c));
        return c;
    }

    private static byte[] openAnswer(int c) {
        return Wire.answer(0, Wire.OPENING, 70 + c, 80 + c, 2001, Wire.introduction());
    }

    private static void strangeOnes() {
        byte[][] closing = {Wire.watch(EARLY, 1), Wire.ending(EARLY, 1), Wire.credit("s", 1, 1, 0),
                Wire.reply(Wire.OPENING, 1, 2001, EARLY), Wire.message(2, 0, 1, 0, 0, 0)};
        for (int i = 0; i < closing.length; i++) {
            QuotaPeers x = withPeer(EARLY);
            x.accept();
            check.due("done", Check.feed(x, 1, closing[i]), 1);
            check.due("closed by " + i, x.connection(1, 0), 0);
            check.due("not answered", x.waiting(1), 0);
            check.due("lost", x.lost(), 1);
            state(x, "it stays", 0, 0, 0);
        }
        QuotaPeers x = withPeer(EARLY);
        x.accept();
        Check.feed(x, 1, Wire.request(Wire.OPENING, 3, 4, Wire.origin(EARLY, "r")));
        check.due("wrong: closed", x.connection(1, 0), 0);
        check.due("wrong: answered", Check.take(x, 1), Wire.answer(0, Wire.OPENING, 3, 4, 5005, Wire.failed(258)));
        check.due("wrong: not lost", x.lost(), 0);
    }

    private static void openingsThatAreRefused() {
        QuotaPeers x = withPeer(EARLY);
        x.accept();
        Check.feed(x, 1, Wire.message(1, Wire.REQUEST | Wire.PASSED, Wire.OPENING, 0, 3, 4,
                Wire.origin("a.bc", "r"), Wire.number(258, 9)));
        check.due("no such peer", Check.take(x, 1), Wire.answer(Wire.PASSED | Wire.FAULT, Wire.OPENING, 3, 4, 3010));
        check.due("closed", x.connection(1, 0), 0);

        x.accept();
        Check.feed(x, 1, Wire.request(Wire.OPENING, 3, 4, Wire.origin(EARLY, "r"), Wire.number(258, 3),
                Wire.number(258, 0)));
        check.due("no right auth", Check.take(x, 1), Wire.answer(0, Wire.OPENING, 3, 4, 5010));
        check.due("closed", x.connection(1, 0), 0);
        state(x, "the peer stays", 0, 0, 0);
        check.due("nothing lost", x.lost(), 0);

        x.accept();
        Check.feed(x, 1, Wire.request(Wire.OPENING, 3, 4, Wire.origin(EARLY, "r"), Wire.number(258, 3),
                Wire.number(258, 4294967295L)));
        state(x, "the second auth is right", 5, 0, 1);
        x.accept();
        Check.feed(x, 2, Wire.request(Wire.OPENING, 3, 4, Wire.origin(EARLY, "r"), Wire.number(258, 3)));
        check.due("no right auth, open", Check.take(x, 2), Wire.answer(0, Wire.OPENING, 3, 4, 5010));
        state(x, "it stays open", 5, 0, 1);
    }

    private static void openByCame() {
        QuotaPeers x = withPeer(EARLY);
        accept(x, EARLY);
        state(x, "came", 5, 0, 1);
        check.due("whose", x.connection(1, 1), 1);
        check.due("side", x.connection(1, 2), 2);
        check.due("answered", Check.take(x, 1), openAnswer(1));
        check.due("status", x.state(1, 3), 1);
        check.due("another opening", Check.feed(x, 1, Wire.opening(EARLY, 5, 6)), 1);
        check.due("5012", Check.take(x, 1), Wire.answer(0, Wire.OPENING, 5, 6, 5012));
        state(x, "it stays open", 5, 0, 1);
        x.gone(1);
        state(x, "gone", 0, 0, 0);
    }

    private static void openByOwn() {
        QuotaPeers x = withPeer(EARLY);
        x.start(1);
        x.connected(1, true);
        state(x, "asking", 2, 1, 0);
        Check.feed(x, 1, Wire.reply(Wire.OPENING, 1, 2001, EARLY));
        state(x, "answered", 6, 1, 0);
        check.due("status", x.state(1, 3), 1);
        check.due("nothing lost", x.lost(), 0);
        x.gone(1);
        state(x, "gone", 0, 0, 0);
        check.due("status", x.state(1, 3), 3);
    }

    private static void askingEnds() {
        byte[][] others = {Wire.reply(Wire.OPENING, 2, 2001, EARLY), Wire.reply(Wire.OPENING, 1, 2002, EARLY),
                Wire.reply(Wire.OPENING, 1, 2001, LATE), Wire.reply(Wire.WATCH, 1, 2001, EARLY),
                Wire.opening(EARLY, 1, 1), Wire.message(1, 0, Wire.OPENING, 0, 1, 1, Wire.number(268, 2001),
                Wire.text(264, EARLY)), Wire.request(999, 1, 1)};
        for (int i = 0; i < others.length; i++) {
            QuotaPeers x = withPeer(EARLY);
            x.start(1);
            x.connected(1, true);
            Check.drain(x, 1);
            check.due("done", Check.feed(x, 1, others[i]), 1);
            state(x, "another message " + i, 0, 0, 0);
            check.due("closed", x.connection(1, 0), 0);
            check.due("not answered", x.waiting(1), 0);
            check.due("lost", x.lost(), 1);
            check.due("still new", x.state(1, 3), 0);
        }
        // Of two the first RESULT and the first HOST count; the application is not looked at; FAULT is right.
        QuotaPeers x = withPeer(EARLY);
        x.start(1);
        x.connected(1, true);
        Check.feed(x, 1, Wire.message(1, Wire.FAULT, Wire.OPENING, 77, 1, 9, Wire.number(268, 2001),
                Wire.number(268, 5), Wire.origin(EARLY, "r"), Wire.origin(LATE, "r")));
        state(x, "first ones", 6, 1, 0);
        QuotaPeers y = withPeer(EARLY);
        y.start(1);
        y.connected(1, true);
        y.gone(1);
        state(y, "the own one is gone", 0, 0, 0);
    }

    private static void both() {
        QuotaPeers x = withPeer(EARLY);
        x.start(1);
        check.due("came", accept(x, EARLY), 2);
        state(x, "both", 3, 1, 2);
        check.due("not answered yet", x.waiting(2), 0);
        check.due("came side", x.connection(2, 2), 2);
        Check.feed(x, 2, Wire.watch(EARLY, 1));
        check.due("passed over", x.lost(), 1);
        check.due("no answer", x.waiting(2), 0);
        x.gone(2);
        state(x, "the came one is gone", 1, 1, 0);
        accept(x, EARLY);
        x.connected(1, false);
        state(x, "refused", 5, 0, 2);
        check.due("answered", Check.take(x, 2), openAnswer(2));

        QuotaPeers w = withPeer(EARLY);
        w.start(1);
        w.accept();
        Check.feed(w, 2, Wire.message(1, Wire.REQUEST | Wire.PASSED | Wire.AGAIN, Wire.OPENING, 0, 5, 6,
                Wire.origin(EARLY, "r"), Wire.number(258, 4)));
        w.gone(1);
        check.due("answered, passed as it was", Check.take(w, 2),
                Wire.answer(Wire.PASSED, Wire.OPENING, 5, 6, 2001, Wire.introduction()));

        QuotaPeers y = withPeer(EARLY);
        y.start(1);
        accept(y, EARLY);
        y.connected(1, true);
        state(y, "chosen: the node is later", 5, 0, 2);
        check.due("own closed", y.connection(1, 0), 0);
        check.due("the opening was sent", y.waiting(1), 100);
        check.due("answered", Check.take(y, 2), openAnswer(2));

        QuotaPeers z = withPeer(LATE);
        z.start(1);
        accept(z, LATE);
        z.connected(1, true);
        state(z, "chosen: the node is earlier", 4, 1, 2);
        check.due("not answered", z.waiting(2), 0);
        check.due("the opening", z.waiting(1), 100);
    }

    private static QuotaPeers choosingPeer() {
        QuotaPeers x = withPeer(LATE);
        x.start(1);
        accept(x, LATE);
        x.connected(1, true);
        Check.drain(x, 1);
        return x;
    }

    private static void choosing() {
        QuotaPeers x = choosingPeer();
        Check.feed(x, 2, Wire.watch(LATE, 1));
        check.due("passed over", x.lost(), 1);
        x.gone(1);
        state(x, "own gone", 5, 0, 2);
        check.due("answered", Check.take(x, 2), openAnswer(2));

        x = choosingPeer();
        Check.feed(x, 1, Wire.reply(Wire.OPENING, 1, 2001, LATE));
        state(x, "answered", 6, 1, 0);
        check.due("came closed", x.connection(2, 0), 0);
        check.due("never answered", x.waiting(2), 0);
        check.due("nothing lost", x.lost(), 0);

        x = choosingPeer();
        x.gone(2);
        state(x, "came gone", 2, 1, 0);
        Check.feed(x, 1, Wire.reply(Wire.OPENING, 1, 2001, LATE));
        state(x, "answered", 6, 1, 0);

        x = choosingPeer();
        Check.feed(x, 1, Wire.reply(Wire.OPENING, 1, 3010, LATE));
        state(x, "another message", 5, 0, 2);
        check.due("own closed", x.connection(1, 0), 0);
        check.due("lost", x.lost(), 1);
        check.due("answered", Check.take(x, 2), openAnswer(2));

        x = choosingPeer();
        x.feed(1, 0, 0, 0, 0, 4);
        state(x, "own breaks off", 5, 0, 2);
        x = choosingPeer();
        x.feed(2, 0, 0, 0, 0, 4);
        state(x, "came breaks off", 2, 1, 0);
    }

    private static void choiceWhenAsking() {
        QuotaPeers x = withPeer(EARLY);
        x.start(1);
        x.connected(1, true);
        accept(x, EARLY);
        state(x, "the node is later", 5, 0, 2);
        check.due("own closed", x.connection(1, 0), 0);
        check.due("answered", Check.take(x, 2), openAnswer(2));
        QuotaPeers y = withPeer(LATE);
        y.start(1);
        y.connected(1, true);
        accept(y, LATE);
        state(y, "the node is earlier", 4, 1, 2);
        check.due("not answered", y.waiting(2), 0);
    }

    private static void laterNames() {
        // The node is m.home: whether it is the later one.
        String[] names = {"m.hom", "m.homd", "m.a", "l", "m-zzzz", "0"};
        for (String name : names) {
            QuotaPeers x = withPeer(name);
            x.start(1);
            x.connected(1, true);
            accept(x, name);
            check.due("later than " + name, x.state(1, 0), 5);
        }
        String[] laters = {"m.home0", "m.homf", "m0", "n", "m.home-"};
        for (String name : laters) {
            QuotaPeers x = withPeer(name);
            x.start(1);
            x.connected(1, true);
            accept(x, name);
            check.due("earlier than " + name, x.state(1, 0), 4);
        }
    }

    private static void another(QuotaPeers x, String name, String when) {
        int state = x.state(1, 0);
        int own = x.state(1, 1);
        int came = x.state(1, 2);
        int c = accept(x, name);
        check.due(when + ": refused", Check.take(x, c), Wire.answer(Wire.FAULT, Wire.OPENING, 70 + c, 80 + c, 3004));
        check.due(when + ": closed", x.connection(c, 0), 0);
        state(x, when, state, own, came);
        check.due(when + ": not lost", x.lost(), 0);
    }

    private static void anotherOneCame() {
        QuotaPeers x = withPeer(LATE);
        x.start(1);
        accept(x, LATE);
        another(x, LATE, "another in 3");
        x.connected(1, true);
        another(x, LATE, "another in 4");
        Check.feed(x, 1, Wire.reply(Wire.OPENING, 1, 2001, LATE));
        another(x, LATE, "another in 6");
        x.stop(1, 0);
        another(x, LATE, "another in 7");
        QuotaPeers y = withPeer(LATE);
        accept(y, LATE);
        another(y, LATE, "another in 5");
    }

    private static void endings() {
        QuotaPeers x = withPeer(EARLY);
        check.due("stop of none", x.stop(2, 0), -1);
        check.due("stop: -1 before -2", x.stop(0, 3), -1);
        check.due("stop with a wrong cause", x.stop(1, 3), -2);
        check.due("stop with a wrong cause", x.stop(1, -1), -2);
        check.due("stop when closed", x.stop(1, 2), -3);
        accept(x, EARLY);
        Check.drain(x, 1);
        check.due("stop", x.stop(1, 2), 1);
        state(x, "ending", 7, 0, 1);
        check.due("the ending", Check.take(x, 1), Wire.request(Wire.ENDING, 1, 1, Wire.origin("m.home", "home"),
                Wire.number(273, 2)));
        check.due("stop again", x.stop(1, 0), -3);
        byte[][] others = {Wire.watch(EARLY, 1), Wire.ending(EARLY, 1), Wire.request(999, 1, 1),
                Wire.reply(Wire.WATCH, 1, 2001, EARLY), Wire.reply(Wire.ENDING, 2, 2001, EARLY),
                Wire.message(1, 0, Wire.ENDING, 0, 1, 1, Wire.origin(EARLY, "r"))};
        for (int i = 0; i < others.length; i++) {
            Check.feed(x, 1, others[i]);
            check.due("passed over", x.lost(), i + 1);
            check.due("no answer", x.waiting(1), 0);
            state(x, "still ending", 7, 0, 1);
        }
        Check.feed(x, 1, Wire.reply(Wire.ENDING, 1, 5012, EARLY));
        state(x, "ended", 0, 0, 0);
        check.due("closed", x.connection(1, 0), 0);
        check.due("not lost", x.lost(), others.length);

        QuotaPeers y = withPeer(EARLY);
        accept(y, EARLY);
        Check.drain(y, 1);
        Check.feed(y, 1, Wire.ending(EARLY, 9));
        state(y, "an ending came", 7, 0, 1);
        check.due("answered", Check.take(y, 1), Wire.answer(0, Wire.ENDING, 9, 9, 2001));
        Check.feed(y, 1, Wire.reply(Wire.ENDING, 0, 2001, EARLY));
        state(y, "there is no ending of the node's", 7, 0, 1);
        y.gone(1);
        state(y, "gone", 0, 0, 0);

        // A second ending has another HOP, and one that the peer ends has none.
        accept(x, EARLY);
        Check.feed(x, 1, Wire.ending(EARLY, 9));
        Check.feed(x, 1, Wire.reply(Wire.ENDING, 1, 2001, EARLY));
        state(x, "the old hop", 7, 0, 1);
    }

    private static void tenSeconds() {
        QuotaPeers x = withPeer(LATE);
        x.start(1);
        check.due("nothing due", x.tick(9), 0);
        state(x, "waiting at 9", 1, 1, 0);
        x.connected(1, true);
        check.due("asking has its own 10 seconds", x.tick(18), 0);
        check.due("due", x.tick(19), 1);
        state(x, "asking is over", 0, 0, 0);
        check.due("closed", x.connection(1, 0), 0);
        check.due("status stays", x.state(1, 3), 0);

        x.start(1);
        check.due("due", x.tick(29), 1);
        state(x, "waiting is over", 0, 0, 0);

        x.tick(31);
        x.start(1);
        x.tick(36);
        accept(x, LATE);
        check.due("both has its own", x.tick(45), 0);
        check.due("due", x.tick(46), 1);
        state(x, "both is over", 0, 0, 0);
        check.due("came closed", x.connection(2, 0), 0);
        check.due("never answered", x.waiting(2), 0);

        x.start(1);
        accept(x, LATE);
        x.tick(50);
        x.gone(2);
        check.due("waiting anew", x.tick(59), 0);
        check.due("due, and the timer", x.tick(60), 2);
        state(x, "waiting anew is over", 0, 0, 0);

        x.tick(70);
        x.start(1);
        accept(x, LATE);
        x.connected(1, true);
        x.tick(75);
        x.gone(2);
        check.due("asking anew", x.tick(84), 0);
        check.due("due", x.tick(85), 1);
        x.start(1);
        accept(x, LATE);
        x.tick(87);
        x.connected(1, true);
        state(x, "choosing", 4, 1, 2);
        check.due("timer alone", x.tick(96), 1);
        check.due("due", x.tick(97), 1);
        state(x, "choosing is over", 0, 0, 0);

        accept(x, LATE);
        x.tick(100);
        x.stop(1, 0);
        check.due("ending", x.tick(109), 0);
        check.due("due", x.tick(110), 1);
        state(x, "ending is over", 0, 0, 0);
        check.due("open has no limit", accept(x, LATE), 1);
        x.tick(129);
        state(x, "open", 5, 0, 1);
    }

    private static void whatIsAsked() {
        QuotaPeers x = withPeer(EARLY);
        check.due("no peer", x.state(0, 0), -1);
        check.due("no peer", x.state(2, 0), -1);
        check.due("no peer", x.state(-1, 9), -1);
        check.due("no what", x.state(1, 8), -2);
        check.due("no what", x.state(1, -1), -2);
        for (int what = 0; what <= 7; what++) {
            check.due("at first", x.state(1, what), what == 5 ? 30 : 0);
        }
        check.due("back in time", x.tick(-1), -2);
        check.due("too far", x.tick(2001), -2);
        check.due("the clock", x.clock(), 0);
        check.due("no time goes", x.tick(0), 0);
        check.due("far enough", x.tick(2000), 66);
        check.due("the clock", x.clock(), 2000);
        check.due("before", x.tick(1999), -2);
        check.due("too far", x.tick(Integer.MAX_VALUE), -2);
        check.due("the timer", x.state(1, 5), 2010);
    }
}
