/** Promises 11 and 16, with 10 and 25: WATCHES, the TIMER, what a status makes of messages. */
public final class WatchTest {
    private static final Check check = new Check();

    public static void main(String[] args) {
        good();
        silent();
        back();
        backEnds();
        backPassesOver();
        answersThatAreNone();
        downAndNew();
        manyPeers();
        noRoom();
        check.end("WatchTest");
    }

    private static QuotaPeers open() {
        QuotaPeers x = new QuotaPeers();
        Check.peer(x, "a.b", false);
        come(x);
        return x;
    }

    private static void come(QuotaPeers x) {
        int c = x.accept();
        Check.feed(x, c, Wire.opening("a.b", 1, 1));
        Check.drain(x, c);
    }

    /** A PEER that is BACK, with its WATCH of the HOP 1 taken, at the second 5. */
    private static QuotaPeers isBack() {
        QuotaPeers x = open();
        x.tick(5);
        x.gone(1);
        come(x);
        return x;
    }

    private static void status(QuotaPeers x, String when, int status, int awaited, int timer) {
        check.due(when + ": status", x.state(1, 3), status);
        check.due(when + ": awaited", x.state(1, 4), awaited);
        check.due(when + ": timer", x.state(1, 5), timer);
    }

    private static byte[] watch(int hop) {
        return Wire.request(Wire.WATCH, hop, hop, Wire.origin("m.home", "home"), Wire.number(278, 1));
    }

    private static void good() {
        QuotaPeers late = new QuotaPeers();
        Check.peer(late, "a.b", false);
        late.tick(7);
        come(late);
        status(late, "new to good at 7", 1, 0, 37);
        QuotaPeers x = open();
        status(x, "new to good", 1, 0, 30);
        x.tick(10);
        Check.feed(x, 1, Wire.watch("a.b", 5));
        status(x, "a message", 1, 0, 40);
        check.due("answered", Check.take(x, 1), Wire.answer(0, Wire.WATCH, 5, 5, 2001, Wire.number(278, 1)));
        x.tick(11);
        Check.feed(x, 1, Wire.request(999, 1, 1));
        status(x, "a wrong one", 1, 0, 41);
        x.tick(12);
        Check.feed(x, 1, Wire.message(1, 0, 999, 0, 1, 1));
        status(x, "a wrong answer", 1, 0, 42);
        check.due("lost", x.lost(), 1);
        Check.drain(x, 1);
        check.due("not yet", x.tick(41), 0);
        check.due("the timer", x.tick(42), 1);
        status(x, "a watch is sent", 1, 1, 72);
        check.due("the watch", Check.take(x, 1), watch(1));
        x.tick(50);
        Check.feed(x, 1, Wire.watch("a.b", 6));
        status(x, "awaited stays", 1, 1, 80);
        x.tick(60);
        Check.feed(x, 1, Wire.reply(Wire.WATCH, 1, 5012, "b"));
        status(x, "the answer", 1, 0, 90);
        check.due("no more lost", x.lost(), 1);
        Check.feed(x, 1, Wire.reply(Wire.WATCH, 1, 2001, "a.b"));
        check.due("the same again is no answer", x.lost(), 2);
        Check.drain(x, 1);
        x.tick(90);
        check.due("the next watch", Check.take(x, 1), watch(2));
        check.due("not given over", x.state(1, 6), 0);
    }

    private static void silent() {
        QuotaPeers x = open();
        x.tick(30);
        check.due("the timer", x.tick(60), 1);
        status(x, "silent", 2, 1, 90);
        check.due("given over", x.state(1, 6), 1);
        check.due("still open", x.state(1, 0), 5);
        x.tick(70);
        Check.feed(x, 1, Wire.reply(Wire.WATCH, 1, 2001, "a.b"));
        status(x, "good by the answer", 1, 0, 100);
        x.tick(130);
        status(x, "silent again", 2, 1, 160);
        Check.feed(x, 1, Wire.reply(Wire.WATCH, 9, 2001, "a.b"));
        status(x, "good by another message", 1, 1, 160);
        check.due("lost", x.lost(), 1);
        x.tick(160);
        status(x, "silent, for it was awaited", 2, 1, 190);
        check.due("given over", x.state(1, 6), 3);
        check.due("the timer", x.tick(190), 1);
        status(x, "down", 3, 0, 220);
        check.due("closed", x.state(1, 0), 0);
        check.due("connection closed", x.connection(1, 0), 0);
        check.due("given over", x.state(1, 6), 4);
    }

    private static void back() {
        QuotaPeers x = open();
        x.tick(5);
        x.gone(1);
        status(x, "down", 3, 0, 35);
        x.tick(7);
        x.accept();
        Check.feed(x, 1, Wire.opening("a.b", 8, 9));
        status(x, "back", 4, 1, 37);
        check.due("first the answer", Check.take(x, 1), Wire.answer(0, Wire.OPENING, 8, 9, 2001, Wire.introduction()));
        check.due("then the watch", Check.take(x, 1), watch(1));
        x.tick(8);
        Check.feed(x, 1, Wire.reply(Wire.WATCH, 1, 2001, "a.b"));
        status(x, "one answer", 4, 0, 37);
        check.due("answers", x.state(1, 7), 1);
        x.tick(37);
        status(x, "the next watch", 4, 1, 67);
        check.due("the watch", Check.take(x, 1), watch(2));
        Check.feed(x, 1, Wire.reply(Wire.WATCH, 2, 2001, "a.b"));
        check.due("answers", x.state(1, 7), 2);
        x.tick(67);
        x.tick(70);
        Check.feed(x, 1, Wire.reply(Wire.WATCH, 3, 2001, "a.b"));
        status(x, "good at the third, the timer stays", 1, 0, 97);
        check.due("answers", x.state(1, 7), 3);
        x.gone(1);
        check.due("answers stay when down", x.state(1, 7), 3);
        come(x);
        check.due("none as back anew", x.state(1, 7), 0);
        check.due("nothing lost", x.lost(), 0);
    }

    private static void backEnds() {
        QuotaPeers x = isBack();
        status(x, "back", 4, 1, 35);
        check.due("the timer", x.tick(35), 1);
        status(x, "down", 3, 0, 65);
        check.due("closed", x.state(1, 0), 0);
        check.due("given over", x.state(1, 6), 2);
        QuotaPeers y = isBack();
        check.due("stopped", y.stop(1, 0), 1);
        status(y, "ending", 3, 0, 35);
        check.due("given over", y.state(1, 6), 2);
        QuotaPeers z = isBack();
        Check.feed(z, 1, Wire.ending("a.b", 4));
        check.due("an ending is done", z.state(1, 0), 7);
        check.due("answered", Check.take(z, 1), Wire.answer(0, Wire.ENDING, 4, 4, 2001));
        check.due("not lost", z.lost(), 0);
    }

    private static void backPassesOver() {
        QuotaPeers x = isBack();
        byte[][] others = {Wire.opening("a.b", 4, 4), Wire.credit("s", 4, 1, 0), Wire.request(999, 4, 4),
                Wire.reply(Wire.WATCH, 9, 2001, "a.b"), Wire.message(1, 0, Wire.WATCH, 0, 1, 1),
                Wire.message(1, 0, Wire.ENDING, 0, 1, 1)};
        for (int i = 0; i < others.length; i++) {
            x.tick(6 + i);
            Check.feed(x, 1, others[i]);
            check.due("passed over", x.lost(), i + 1);
            check.due("no answer", x.waiting(1), 0);
            status(x, "nothing changes", 4, 1, 35);
        }
        Check.feed(x, 1, Wire.watch("a.b", 4));
        check.due("a watch is done", Check.take(x, 1), Wire.answer(0, Wire.WATCH, 4, 4, 2001, Wire.number(278, 1)));
        Check.feed(x, 1, Wire.request(Wire.WATCH, 4, 4));
        check.due("a wrong watch too", Check.take(x, 1), Wire.answer(0, Wire.WATCH, 4, 4, 5005, Wire.failed(264)));
        Check.feed(x, 1, Wire.request(Wire.ENDING, 4, 4));
        check.due("a wrong ending too", Check.take(x, 1), Wire.answer(0, Wire.ENDING, 4, 4, 5005, Wire.failed(264)));
        check.due("still open", x.state(1, 0), 5);
        status(x, "still back", 4, 1, 35);
        check.due("no more lost", x.lost(), others.length);
        check.due("no answers", x.state(1, 7), 0);
    }

    private static void answersThatAreNone() {
        QuotaPeers x = open();
        x.tick(30);
        byte[][] others = {Wire.reply(Wire.WATCH, 2, 2001, "a.b"), Wire.reply(Wire.ENDING, 1, 2001, "a.b"),
                Wire.message(1, 0, Wire.WATCH, 0, 1, 1, Wire.origin("a.b", "r")), Wire.reply(Wire.ASK, 1, 2001, "a.b")};
        for (int i = 0; i < others.length; i++) {
            Check.feed(x, 1, others[i]);
            status(x, "still awaited", 1, 1, 60);
            check.due("lost", x.lost(), i + 1);
        }
        // An answer on another connection is none.
        Check.peer(x, "c", false);
        x.accept();
        Check.feed(x, 2, Wire.opening("c", 1, 1));
        Check.feed(x, 2, Wire.reply(Wire.WATCH, 1, 2001, "a.b"));
        status(x, "still awaited", 1, 1, 60);
        check.due("lost", x.lost(), others.length + 1);
        Check.feed(x, 1, Wire.message(1, 0, Wire.WATCH, 7, 1, 99, Wire.number(268, 0), Wire.origin("x", "y")));
        status(x, "the answer", 1, 0, 60);
    }

    private static void downAndNew() {
        QuotaPeers x = new QuotaPeers();
        Check.peer(x, "a.b", true);
        check.due("the timer", x.tick(30), 1);
        status(x, "new", 0, 0, 60);
        check.due("started", x.state(1, 0), 1);
        x.connected(1, true);
        Check.feed(x, 1, Wire.reply(Wire.OPENING, 1, 2001, "a.b"));
        status(x, "good", 1, 0, 60);
        x.gone(1);
        status(x, "down", 3, 0, 60);
        check.due("not started at once", x.state(1, 0), 0);
        check.due("the timer", x.tick(60), 1);
        check.due("started", x.state(1, 0), 1);
        check.due("10 seconds", x.tick(70), 1);
        check.due("20 seconds nothing", x.tick(89), 0);
        check.due("timer, 10 seconds, timer", x.tick(120), 3);
        check.due("started anew", x.state(1, 0), 1);
        // In another state than 0 the TIMER starts nothing.
        x.connected(1, true);
        Check.feed(x, 1, Wire.reply(Wire.OPENING, 2, 2001, "a.b"));
        status(x, "back", 4, 1, 150);
        x.tick(141);
        x.stop(1, 1);
        check.due("ending is over", x.tick(151), 1);
        x.start(1);
        x.tick(160);
        check.due("10 seconds, no timer", x.tick(161), 1);
        x.tick(165);
        x.start(1);
        check.due("the timer", x.tick(171), 1);
        check.due("it waits still", x.state(1, 0), 1);
        check.due("10 seconds", x.tick(175), 1);
    }

    private static void manyPeers() {
        // At one second the PEERS come in the order of their numbers: their WATCHES have HOPS so.
        QuotaPeers x = new QuotaPeers();
        String[] names = {"d", "c", "b", "a"};
        for (int i = 0; i < 4; i++) {
            Check.peer(x, names[i], false);
        }
        for (int i = 3; i >= 0; i--) {
            int c = x.accept();
            Check.feed(x, c, Wire.opening(names[i], 1, 1));
            Check.drain(x, c);
        }
        check.due("four timers", x.tick(30), 4);
        for (int i = 0; i < 4; i++) {
            check.due("the watch of peer " + (i + 1), Check.take(x, 4 - i), watch(i + 1));
        }
        // A PEER's 10 seconds come before its TIMER: it is started in the same second.
        QuotaPeers y = new QuotaPeers();
        Check.peer(y, "a.b", true);
        y.tick(20);
        y.start(1);
        check.due("both", y.tick(30), 2);
        check.due("started anew", y.state(1, 0), 1);
        check.due("with its own 10 seconds", y.tick(39), 0);
        check.due("they are over", y.tick(40), 1);
    }

    private static void noRoom() {
        QuotaPeers x = open();
        byte[] strange = Wire.request(999, 1, 1);
        for (int i = 0; i < 33; i++) {
            Check.feed(x, 1, strange);
        }
        check.due("almost full", x.waiting(1), 1980);
        x.tick(30);
        check.due("the watch has no room", x.lost(), 1);
        check.due("nothing more waits", x.waiting(1), 1980);
        status(x, "as if it had been sent", 1, 1, 60);
        Check.feed(x, 1, Wire.reply(Wire.WATCH, 1, 2001, "a.b"));
        status(x, "it may be answered", 1, 0, 60);
        check.due("stop", x.stop(1, 0), 1);
        check.due("the ending has no room", x.lost(), 2);
        check.due("ending", x.state(1, 0), 7);
        Check.feed(x, 1, Wire.reply(Wire.ENDING, 2, 2001, "a.b"));
        check.due("it has its hop", x.state(1, 0), 0);
    }
}
