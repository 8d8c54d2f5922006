/** Terms, WATCHES and ASKS: each sentence that names a boundary has a test of its own, at it and on both sides. */
public final class EdgesOfWatchesTest {
    private static final Check check = new Check();
    private static final String EARLY = Scene.EARLY;
    private static final String LATE = Scene.LATE;
    private static final byte[] NODE = Wire.origin("m.home", "home");
    private static final int NEW = 0;
    private static final int GOOD = 1;
    private static final int SILENT = 2;
    private static final int DOWN = 3;
    private static final int BACK = 4;

    public static void main(String[] args) {
        timerIsSet();
        atFirst();
        comesNew();
        comesBack();
        leaves();
        theAnswer();
        theAnswerWhenSilent();
        thirdAnswer();
        anyOther();
        backPassesOver();
        timerWhenGood();
        timerWhenSilent();
        timerWhenBack();
        timerWhenNewOrDown();
        requestsOfTheNode();
        hops();
        usable();
        byWhom();
        results();
        sentLast();
        givenOver();
        givenOverWithNone();
        check.end("EdgesOfWatchesTest");
    }

    private static void status(QuotaPeers x, String when, int status, int awaited, int timer) {
        check.due(when + ": status", x.state(1, 3), status);
        check.due(when + ": awaited", x.state(1, 4), awaited);
        check.due(when + ": timer", x.state(1, 5), timer);
    }

    private static byte[] watch(int hop) {
        return Wire.request(Wire.WATCH, hop, hop, NODE, Wire.number(278, 1));
    }

    /** A PEER that is BACK since 5 seconds by its CONNECTION 1, on which the WATCH with HOP 1 was taken. */
    private static QuotaPeers back() {
        QuotaPeers x = Scene.open();
        x.tick(5);
        x.gone(1);
        Check.drain(x, Scene.come(x, EARLY));
        return x;
    }

    /** A PEER that is SILENT since 60 seconds, with the WATCH of HOP 1. */
    private static QuotaPeers silent() {
        QuotaPeers x = Scene.open();
        x.tick(60);
        Check.drain(x, 1);
        return x;
    }

    private static void due(QuotaPeers x, String when, int second) {
        check.due(when + ": one before", x.tick(second - 1), 0);
        check.due(when + ": due", x.tick(second), 1);
    }

    private static void timerIsSet() {
        check.of("where it is told that the TIMER is set, it is 30 seconds later");
        QuotaPeers x = Scene.withPeer(EARLY);
        due(x, "new", 30);
        due(x, "new again", 60);
        QuotaPeers y = Scene.open();
        due(y, "good", 30);
        due(y, "watched", 60);
        due(y, "silent", 90);
        due(y, "down", 120);
        QuotaPeers z = Scene.open();
        z.tick(29);
        Check.feed(z, 1, Wire.watch(EARLY, 1));
        status(z, "a message at 29", GOOD, 0, 59);
        due(z, "behind a message", 59);
        QuotaPeers w = back();
        status(w, "back at 5", BACK, 1, 35);
        due(w, "back", 35);
    }

    private static void atFirst() {
        check.of("At first NEW, and the TIMER is set when the PEER is made.");
        int[] times = {0, 1, 29, 30, 2000};
        for (int time : times) {
            QuotaPeers x = new QuotaPeers();
            x.tick(time);
            Check.peer(x, EARLY, true);
            status(x, "made at " + time, NEW, 0, time + 30);
            check.due("never given over", x.state(1, 6), 0);
            check.due("no answers", x.state(1, 7), 0);
            due(x, "made at " + time, time + 30);
        }
    }

    private static void comesNew() {
        check.of("It comes to 5 or 6: NEW: GOOD, TIMER set.");
        QuotaPeers x = Scene.withPeer(EARLY);
        x.tick(7);
        Scene.come(x, EARLY);
        status(x, "to 5 at 7", GOOD, 0, 37);
        check.due("no watch", x.waiting(1), 112);
        QuotaPeers y = Scene.in(2, EARLY);
        y.tick(7);
        Check.feed(y, 1, Wire.reply(Wire.OPENING, 1, 2001, EARLY));
        status(y, "to 6 at 7", GOOD, 0, 37);
        check.due("no watch", y.waiting(1), 0);
    }

    private static void comesBack() {
        check.of("Else (DOWN): BACK: a WATCH is sent, TIMER set, AWAITED; it has 0 ANSWERS.");
        QuotaPeers x = Scene.open();
        x.tick(5);
        x.gone(1);
        x.tick(9);
        status(x, "down", DOWN, 0, 35);
        Scene.come(x, EARLY);
        status(x, "back by 5", BACK, 1, 39);
        check.due("first the answer", Check.take(x, 1), Scene.welcome(1));
        check.due("then the watch", Check.take(x, 1), watch(1));
        check.due("answers", x.state(1, 7), 0);
        QuotaPeers y = Scene.open();
        y.gone(1);
        y.start(1);
        y.connected(1, true);
        Check.drain(y, 1);
        y.tick(9);
        Check.feed(y, 1, Wire.reply(Wire.OPENING, 1, 2001, EARLY));
        status(y, "back by 6", BACK, 1, 39);
        check.due("the watch", Check.take(y, 1), watch(2));
        // ANSWERS of a time before do not count.
        QuotaPeers z = back();
        Check.feed(z, 1, Wire.reply(Wire.WATCH, 1, 2001, EARLY));
        check.due("one answer", z.state(1, 7), 1);
        z.gone(1);
        Scene.come(z, EARLY);
        check.due("none anew", z.state(1, 7), 0);
    }

    private static void leaves() {
        check.of("It leaves 5, 6 (to 0 or 7): DOWN, not AWAITED, TIMER set, GIVEN OVER.");
        for (int way = 0; way < 4; way++) {
            QuotaPeers x = Scene.open();
            x.tick(30);
            status(x, "awaited", GOOD, 1, 60);
            x.tick(41);
            if (way == 0) {
                x.gone(1);
            } else if (way == 1) {
                x.stop(1, 0);
            } else if (way == 2) {
                Check.feed(x, 1, Wire.ending(EARLY, 3));
            } else {
                x.feed(1, 0, 0, 0, 0, 4);
            }
            status(x, "way " + way, DOWN, 0, 71);
            check.due("given over", x.state(1, 6), 1);
            check.due("state", x.state(1, 0), way == 1 || way == 2 ? 7 : 0);
            x.tick(51);
            status(x, "7 to 0 is no leaving", DOWN, 0, 71);
            check.due("given over once", x.state(1, 6), 1);
        }
        // One that never was in 5, 6 leaves nothing.
        int[] states = {1, 2, 3, 4};
        for (int state : states) {
            QuotaPeers x = Scene.in(state, LATE);
            x.tick(10);
            status(x, "from " + state, NEW, 0, 30);
            check.due("not given over", x.state(1, 6), 0);
        }
    }

    private static void theAnswer() {
        check.of("the ANSWER to the last WATCH, if it is AWAITED, and not WRONG: not AWAITED; GOOD: TIMER set.");
        long[] hops = {0, 1, 2};
        for (long hop : hops) {
            QuotaPeers x = Scene.open();
            x.tick(30);
            x.tick(40);
            Check.feed(x, 1, Wire.reply(Wire.WATCH, hop, 2001, EARLY));
            status(x, "hop " + hop, GOOD, hop == 1 ? 0 : 1, 70);
            check.due("lost", x.lost(), hop == 1 ? 0 : 1);
        }
        // An earlier WATCH is not the last.
        QuotaPeers x = Scene.open();
        x.tick(30);
        Check.feed(x, 1, Wire.reply(Wire.WATCH, 1, 2001, EARLY));
        x.tick(60);
        Check.feed(x, 1, Wire.reply(Wire.WATCH, 1, 2001, EARLY));
        status(x, "the one before", GOOD, 1, 90);
        check.due("lost", x.lost(), 1);
        Check.feed(x, 1, Wire.reply(Wire.WATCH, 2, 5012, "any"));
        status(x, "the last, with any result and host", GOOD, 0, 90);
        Check.feed(x, 1, Wire.reply(Wire.WATCH, 2, 2001, EARLY));
        check.due("not awaited any more", x.lost(), 2);
        QuotaPeers y = Scene.open();
        y.tick(30);
        Check.feed(y, 1, Wire.message(1, 0, Wire.WATCH, 0, 1, 1, Wire.number(268, 2001), Wire.text(264, EARLY)));
        status(y, "wrong", GOOD, 1, 60);
        check.due("lost", y.lost(), 1);
    }

    private static void theAnswerWhenSilent() {
        check.of("SILENT: GOOD, TIMER set.");
        QuotaPeers x = silent();
        x.tick(70);
        Check.feed(x, 1, Wire.reply(Wire.WATCH, 1, 2001, EARLY));
        status(x, "the answer", GOOD, 0, 100);
        QuotaPeers y = silent();
        y.tick(89);
        Check.feed(y, 1, Wire.watch(EARLY, 4));
        status(y, "another message", GOOD, 1, 119);
        check.due("answered", Check.take(y, 1), Wire.answer(0, Wire.WATCH, 4, 4, 2001, Wire.number(278, 1)));
        QuotaPeers z = silent();
        Check.feed(z, 1, Wire.message(2, 0, 1, 0, 1, 1));
        status(z, "a wrong answer", GOOD, 1, 90);
        check.due("lost", z.lost(), 1);
    }

    private static void thirdAnswer() {
        check.of("BACK: one ANSWER more; at the third GOOD.");
        QuotaPeers x = back();
        for (int answers = 1; answers <= 3; answers++) {
            int second = 5 + 30 * (answers - 1);
            status(x, "before answer " + answers, BACK, 1, second + 30);
            x.tick(second + 1);
            Check.feed(x, 1, Wire.reply(Wire.WATCH, answers, 2001, EARLY));
            status(x, "answer " + answers, answers == 3 ? GOOD : BACK, 0, second + 30);
            check.due("answers", x.state(1, 7), answers);
            if (answers < 3) {
                Check.feed(x, 1, Wire.reply(Wire.WATCH, answers, 2001, EARLY));
                check.due("the same again does not count", x.state(1, 7), answers);
                x.tick(second + 30);
            }
        }
        x.tick(95);
        status(x, "the timer was not set at the third", GOOD, 1, 125);
        Check.feed(x, 1, Wire.reply(Wire.WATCH, 4, 2001, EARLY));
        check.due("no fourth", x.state(1, 7), 3);
        check.due("only those that came again are lost", x.lost(), 2);
    }

    private static void anyOther() {
        check.of("Any other MESSAGE (AWAITED stays): GOOD: TIMER set.");
        byte[][] others = {Wire.opening(EARLY, 1, 1), Wire.watch(EARLY, 1), Wire.credit("s", 1, 2, 0), Wire.request(999, 1, 1),
                Wire.reply(Wire.WATCH, 9, 2001, EARLY), Wire.reply(Wire.ASK, 1, 2001, EARLY), Wire.message(0, 0, 0, 0, 1, 1)};
        for (int i = 0; i < others.length; i++) {
            QuotaPeers x = Scene.open();
            x.tick(11);
            Check.feed(x, 1, others[i]);
            status(x, "not awaited, message " + i, GOOD, 0, 41);
            x.tick(42);
            Check.feed(x, 1, others[i]);
            status(x, "awaited, message " + i, GOOD, 1, 72);
            check.due("not given over", x.state(1, 6), 0);
        }
        // Octets that are no whole MESSAGE set nothing.
        QuotaPeers x = Scene.open();
        x.tick(11);
        x.feed(1, 0x0100001480000118L, 0, 0, 0, 19);
        status(x, "19 octets", GOOD, 0, 30);
        x.feed(1, 0, 0, 0, 0, 1);
        status(x, "20 octets", GOOD, 0, 41);
    }

    private static void backPassesOver() {
        check.of("BACK: it is passed over, LOST, if it is no REQUEST with the COMMAND 280 or 282.");
        int[] commands = {279, 280, 281, 282, 283, 257, 272};
        for (int command : commands) {
            boolean done = command == 280 || command == 282;
            QuotaPeers x = back();
            x.tick(6);
            Check.feed(x, 1, Wire.request(command, 4, 4));
            check.due("request " + command, x.waiting(1) > 0 ? 1 : 0, done ? 1 : 0);
            check.due("lost", x.lost(), done ? 0 : 1);
            status(x, "stays", BACK, 1, 35);
            QuotaPeers y = back();
            Check.feed(y, 1, Wire.message(1, 0, command, 0, 9, 9, Wire.number(268, 2001), NODE));
            check.due("answer " + command, y.lost(), 1);
            status(y, "stays", BACK, 1, 35);
        }
        QuotaPeers x = back();
        Check.feed(x, 1, Wire.watch(EARLY, 4));
        check.due("a watch", Check.take(x, 1), Wire.answer(0, Wire.WATCH, 4, 4, 2001, Wire.number(278, 1)));
        Check.feed(x, 1, Wire.message(2, 128, 280, 0, 4, 4));
        check.due("a wrong one", Check.take(x, 1), Wire.answer(0, Wire.WATCH, 4, 4, 5011));
        Check.feed(x, 1, Wire.ending(EARLY, 4));
        check.due("an ending", x.state(1, 0), 7);
        // No CREDIT is done, so none is KEPT and no SESSION is made.
        QuotaPeers y = back();
        y.account(120, 5000);
        Check.feed(y, 1, Wire.credit("s", 4, 1, 0, Wire.subscriber("120")));
        check.due("sessions", y.sessions(), 0);
        check.due("kept", y.kept(), 0);
    }

    private static void timerWhenGood() {
        check.of("GOOD: not AWAITED: a WATCH is sent, AWAITED, TIMER set; AWAITED: SILENT, TIMER set, GIVEN OVER.");
        QuotaPeers x = Scene.open();
        x.tick(29);
        status(x, "29", GOOD, 0, 30);
        check.due("no watch yet", x.waiting(1), 0);
        x.tick(30);
        status(x, "30", GOOD, 1, 60);
        check.due("the watch", Check.take(x, 1), watch(1));
        x.tick(59);
        status(x, "59", GOOD, 1, 60);
        check.due("not given over", x.state(1, 6), 0);
        x.tick(60);
        status(x, "60", SILENT, 1, 90);
        check.due("given over", x.state(1, 6), 1);
        check.due("no second watch", x.waiting(1), 0);
        check.due("still open", x.state(1, 0), 5);
    }

    private static void timerWhenSilent() {
        check.of("SILENT: its CONNECTION is CLOSED (0, DOWN).");
        QuotaPeers x = silent();
        check.due("89", x.tick(89), 0);
        check.due("still", x.state(1, 0), 5);
        check.due("90", x.tick(90), 1);
        check.due("closed", x.state(1, 0), 0);
        check.due("connection", x.connection(1, 0), 0);
        status(x, "down", DOWN, 0, 120);
        check.due("given over again", x.state(1, 6), 2);
    }

    private static void timerWhenBack() {
        check.of("BACK: not AWAITED: a WATCH is sent, AWAITED, TIMER set; AWAITED: its CONNECTION is CLOSED (0, DOWN).");
        QuotaPeers x = back();
        Check.feed(x, 1, Wire.reply(Wire.WATCH, 1, 2001, EARLY));
        check.due("34", x.tick(34), 0);
        check.due("no watch yet", x.waiting(1), 0);
        check.due("35", x.tick(35), 1);
        status(x, "a watch", BACK, 1, 65);
        check.due("the watch", Check.take(x, 1), watch(2));
        check.due("64", x.tick(64), 0);
        check.due("still", x.state(1, 0), 5);
        check.due("65", x.tick(65), 1);
        check.due("closed", x.state(1, 0), 0);
        check.due("connection", x.connection(1, 0), 0);
        status(x, "down", DOWN, 0, 95);
        check.due("given over", x.state(1, 6), 2);
    }

    private static void timerWhenNewOrDown() {
        check.of("NEW, DOWN: TIMER set; and start(), if the PEER is one that the NODE starts and it is in 0.");
        for (int starts = 0; starts <= 1; starts++) {
            QuotaPeers x = new QuotaPeers();
            Check.peer(x, EARLY, starts == 1);
            x.tick(29);
            check.due("29", x.state(1, 0), 0);
            check.due("30", x.tick(30), 1);
            check.due("started", x.state(1, 0), starts);
            status(x, "new", NEW, 0, 60);
            x.tick(40);
            Scene.come(x, EARLY);
            x.gone(1);
            status(x, "down", DOWN, 0, 70);
            check.due("69", x.tick(69), 0);
            check.due("70", x.tick(70), 1);
            check.due("started", x.state(1, 0), starts);
            status(x, "still down", DOWN, 0, 100);
        }
        // In another STATE nothing is started: its CONNECTION stays.
        QuotaPeers x = new QuotaPeers();
        Check.peer(x, EARLY, true);
        x.tick(21);
        x.start(1);
        check.due("30", x.tick(30), 1);
        check.due("the same state", x.state(1, 0), 1);
        check.due("31", x.tick(31), 1);
        check.due("its ten seconds were not given anew", x.state(1, 0), 0);
        // No CONNECTION is CLOSED: the TIMER is set, and nothing else is done.
        QuotaPeers y = new QuotaPeers();
        Check.peer(y, EARLY, true);
        for (int c = 1; c <= 8; c++) {
            y.accept();
        }
        check.due("the timer", y.tick(30), 1);
        check.due("not started", y.state(1, 0), 0);
        status(y, "new", NEW, 0, 60);
    }

    private static void requestsOfTheNode() {
        check.of("All with MUST; APPLICATION 0 but for ASKS.");
        QuotaPeers x = Scene.openPeers(1);
        Scene.begin(x, 1);
        Check.drain(x, 1);
        x.ask(0);
        check.due("ask", Check.take(x, 1), Wire.message(1, 192, 258, 4, 1, 1, Wire.text(263, "s"), NODE, Wire.text(283, "e"),
                Wire.text(293, "c.d"), Wire.number(258, 4), Wire.number(285, 0)));
        x.tick(30);
        check.due("watch", Check.take(x, 1), Wire.message(1, 128, 280, 0, 2, 2, NODE, Wire.number(278, 1)));
        QuotaPeers y = Scene.open();
        y.stop(1, 0);
        check.due("ending", Check.take(y, 1), Wire.message(1, 128, 282, 0, 1, 1, NODE, Wire.number(273, 0)));
        y.gone(1);
        y.start(1);
        y.connected(1, true);
        check.due("opening", Check.take(y, 1), Wire.message(1, 128, 257, 0, 2, 2, NODE, Wire.introduction()));
    }

    private static void hops() {
        check.of("HOP is one more for each REQUEST that the NODE sends");
        // All the ways in which one is sent, by several PEERS.
        QuotaPeers x = Scene.openPeers(2);
        Check.peer(x, LATE, false);
        Scene.begin(x, 2);
        x.ask(0);
        check.due("1 at first", x.asked(0, 3), 1);
        x.start(3);
        x.connected(3, true);
        check.due("an opening", Check.take(x, 3), Wire.request(Wire.OPENING, 2, 2, NODE, Wire.introduction()));
        x.ask(0);
        check.due("the next", x.asked(1, 3), 3);
        x.gone(2);
        check.due("again", x.asked(0, 3), 4);
        check.due("again", x.asked(1, 3), 5);
        check.due("the end of its first sending", x.asked(0, 4), 1);
        check.due("the end of its first sending", x.asked(1, 4), 3);
        x.stop(1, 0);
        Check.feed(x, 1, Wire.reply(Wire.ENDING, 6, 2001, "a"));
        check.due("an ending", x.state(1, 0), 0);
        check.due("none lost", x.lost(), 0);
        // What is refused sends nothing.
        QuotaPeers y = Scene.openPeers(1);
        Scene.begin(y, 1);
        y.stop(1, 3);
        y.ask(1);
        y.start(1);
        y.connected(1, true);
        y.tick(-1);
        y.ask(0);
        check.due("still 1 at first", y.asked(0, 3), 1);
    }

    private static void usable() {
        check.of("The USABLE PEERS are those in 5, 6 with STATUS GOOD.");
        QuotaPeers x = Scene.openPeers(1);
        Scene.begin(x, 1);
        check.due("good in 5", x.ask(0), 0);
        x.tick(30);
        check.due("good and awaited", x.ask(0), 1);
        x.tick(60);
        check.due("silent", x.ask(0), -3);
        Check.feed(x, 1, Wire.watch("a", 1));
        check.due("good again", x.ask(0), 2);
        x.stop(1, 0);
        check.due("in 7", x.ask(0), -3);
        x.gone(1);
        check.due("in 0", x.ask(0), -3);
        x.start(1);
        check.due("in 1", x.ask(0), -3);
        x.connected(1, true);
        check.due("in 2", x.ask(0), -3);
        int hop = 7;
        Check.feed(x, 1, Wire.reply(Wire.OPENING, hop - 1, 2001, "a"));
        check.due("open", x.state(1, 0), 6);
        for (int answers = 1; answers <= 3; answers++) {
            check.due("back with " + (answers - 1), x.ask(0), -3);
            Check.feed(x, 1, Wire.reply(Wire.WATCH, hop, 2001, "a"));
            hop++;
            if (answers < 3) {
                x.tick(60 + 30 * answers);
            }
        }
        check.due("good in 6", x.state(1, 3), GOOD);
        check.due("good in 6", x.ask(0), 3);
    }

    private static void byWhom() {
        check.of("ask() sends one by the PEER by which the SESSION's last CREDIT came, if that is USABLE,"
                + " else by the USABLE one with the least number.");
        for (int p = 1; p <= 4; p++) {
            QuotaPeers x = Scene.openPeers(4);
            Scene.begin(x, p);
            x.ask(0);
            check.due("by peer " + p, x.asked(0, 1), p);
            x.gone(p);
            x.ask(0);
            check.due("else by the least", x.asked(1, 1), p == 1 ? 2 : 1);
            x.gone(p == 1 ? 2 : 1);
            x.ask(0);
            check.due("then by the least of two", x.asked(2, 1), p <= 2 ? 3 : p == 3 ? 2 : 2);
        }
        QuotaPeers x = Scene.openPeers(3);
        Scene.begin(x, 2);
        Check.feed(x, 3, Wire.credit("s", 51, 2, 0));
        x.ask(0);
        check.due("a credit with 5012 is none of the session's", x.asked(0, 1), 2);
        Check.feed(x, 3, Wire.credit("s", 52, 2, 1));
        x.ask(0);
        check.due("one with 2001 is", x.asked(1, 1), 3);
        Check.feed(x, 1, Wire.credit("s", 53, 4, 1, Wire.number(436, 2), Wire.subscriber("120")));
        x.ask(0);
        check.due("one of type 4 is not", x.asked(2, 1), 3);
        Check.feed(x, 1, Wire.credit("s", 52, 2, 9));
        x.ask(0);
        check.due("one that is kept is not", x.asked(3, 1), 3);
    }

    private static void results() {
        check.of("its RESULT is kept (a RESULT of 0 as 1)");
        long[] results = {0, 1, 2, 2001, 2147483647L, 2147483648L, 4294967295L};
        for (long result : results) {
            QuotaPeers x = Scene.openPeers(1);
            Scene.begin(x, 1);
            x.ask(0);
            check.due("none yet", x.asked(0, 0), 0);
            Check.feed(x, 1, Wire.reply(Wire.ASK, 1, result, "any"));
            check.due("result " + result, x.asked(0, 0), result == 0 ? 1 : (int) result);
            check.due("none lost", x.lost(), 0);
            x.gone(1);
            check.due("it stays", x.asked(0, 0), result == 0 ? 1 : (int) result);
        }
        QuotaPeers x = Scene.openPeers(1);
        Scene.begin(x, 1);
        x.ask(0);
        Check.feed(x, 1, Wire.message(1, 0, Wire.ASK, 4, 1, 1, Wire.number(268, 2001), Wire.text(264, "a")));
        check.due("a wrong one", x.asked(0, 0), 0);
        check.due("lost", x.lost(), 1);
    }

    private static void sentLast() {
        check.of("The ANSWER to it (as it was sent last), not WRONG");
        QuotaPeers x = Scene.openPeers(3);
        Scene.begin(x, 2);
        x.ask(0);
        x.tick(29);
        Check.feed(x, 1, Wire.watch("a", 1));
        Check.feed(x, 3, Wire.watch("c", 1));
        x.tick(60);
        check.due("the second is silent", x.state(2, 3), SILENT);
        check.due("sent last by the first", x.asked(0, 1), 1);
        int hop = x.asked(0, 3);
        Check.feed(x, 2, Wire.reply(Wire.ASK, 1, 2001, "b"));
        check.due("as it was sent first", x.asked(0, 0), 0);
        Check.feed(x, 2, Wire.reply(Wire.ASK, hop, 2001, "b"));
        check.due("by another connection", x.asked(0, 0), 0);
        Check.feed(x, 1, Wire.reply(Wire.ASK, 1, 2001, "b"));
        check.due("with the first hop", x.asked(0, 0), 0);
        check.due("all lost", x.lost(), 3);
        Check.feed(x, 1, Wire.reply(Wire.ASK, hop, 2001, "b"));
        check.due("as it was sent last", x.asked(0, 0), 2001);
        check.due("no more lost", x.lost(), 3);
    }

    private static byte[] ask(int flags, int hop, int end) {
        return Wire.message(1, 192 | flags, Wire.ASK, 4, hop, end, Wire.text(263, "s"), NODE, Wire.text(283, "e"),
                Wire.text(293, "c.d"), Wire.number(258, 4), Wire.number(285, 0));
    }

    private static void givenOver() {
        check.of("GIVEN OVER: each ASK that was sent last by the PEER and has no RESULT, in their order, is sent again"
                + " by the USABLE PEER with the least number (AGAIN, a new HOP, the same END)");
        QuotaPeers x = Scene.openPeers(3);
        Scene.begin(x, 2);
        for (int i = 0; i < 4; i++) {
            x.ask(0);
        }
        Check.feed(x, 2, Wire.reply(Wire.ASK, 2, 0, "b"));
        Check.feed(x, 3, Wire.credit("s", 51, 2, 1));
        x.ask(0);
        Check.drain(x, 1);
        int waits = x.waiting(3);
        x.gone(2);
        int[][] due = {{0, 1, 2, 6, 1}, {1, 2, 1, 2, 2}, {0, 1, 2, 7, 3}, {0, 1, 2, 8, 4}, {0, 3, 1, 5, 5}};
        for (int i = 0; i < due.length; i++) {
            for (int what = 0; what <= 4; what++) {
                check.due("ask " + i + " what " + what, x.asked(i, what), due[i][what]);
            }
        }
        check.due("again", Check.take(x, 1), ask(16, 6, 1));
        check.due("again", Check.take(x, 1), ask(16, 7, 3));
        check.due("again", Check.take(x, 1), ask(16, 8, 4));
        check.due("no more", x.waiting(1), 0);
        check.due("none by the other", x.waiting(3), waits);
        check.due("how often", x.state(2, 6), 1);
    }

    private static void givenOverWithNone() {
        check.of("if there is none, it stays when the PEER is SILENT, else its RESULT is 3002");
        QuotaPeers x = Scene.openPeers(1);
        Scene.begin(x, 1);
        x.ask(0);
        x.tick(60);
        check.due("silent", x.state(1, 3), SILENT);
        check.due("it stays", x.asked(0, 0), 0);
        check.due("not sent again", x.asked(0, 2), 1);
        check.due("89", x.tick(89), 0);
        check.due("it stays", x.asked(0, 0), 0);
        x.tick(90);
        check.due("down", x.asked(0, 0), 3002);
        check.due("sent once", x.asked(0, 2), 1);
        QuotaPeers y = Scene.openPeers(1);
        Scene.begin(y, 1);
        y.ask(0);
        y.tick(60);
        Check.feed(y, 1, Wire.reply(Wire.ASK, 1, 7, "a"));
        check.due("one that stayed is answered", y.asked(0, 0), 7);
        QuotaPeers z = Scene.openPeers(1);
        Scene.begin(z, 1);
        z.ask(0);
        z.stop(1, 0);
        check.due("stopped", z.asked(0, 0), 3002);
        QuotaPeers w = Scene.openPeers(1);
        Scene.begin(w, 1);
        w.ask(0);
        Check.feed(w, 1, Wire.ending("a", 4));
        check.due("ended", w.asked(0, 0), 3002);
        // Another PEER that is OPEN but BACK is not USABLE.
        QuotaPeers v = Scene.openPeers(2);
        v.gone(2);
        Scene.come(v, "b");
        Scene.begin(v, 1);
        v.ask(0);
        v.gone(1);
        check.due("none is usable", v.asked(0, 0), 3002);
    }
}
