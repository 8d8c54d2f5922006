/** Promises 22, 23 and 25: ASKS, by whom they are sent, GIVEN OVER, their RESULTS. */
public final class AskTest {
    private static final Check check = new Check();
    private static QuotaPeers node;

    public static void main(String[] args) {
        refusals();
        sent();
        byWhom();
        results();
        givenOverWhenDown();
        givenOverWhenSilent();
        stays();
        sentAgainAsItWas();
        stopped();
        sixtyFour();
        check.end("AskTest");
    }

    /** Three PEERS: those that are told are open, by connections of the same numbers; a SESSION by one of them. */
    private static void open(int sessionPeer, boolean... opened) {
        node = new QuotaPeers();
        String[] names = {"a", "b", "c"};
        for (int i = 0; i < 3; i++) {
            Check.peer(node, names[i], false);
        }
        for (int i = 0; i < 3; i++) {
            node.accept();
            if (opened[i]) {
                Check.feed(node, i + 1, Wire.opening(names[i], 1, 1));
            }
            Check.drain(node, i + 1);
        }
        node.account(120, 5000);
        if (sessionPeer > 0) {
            Check.feed(node, sessionPeer, Wire.credit("s", 50, 1, 0, Wire.subscriber("120")));
            Check.drain(node, sessionPeer);
        }
    }

    private static byte[] ask(int flags, int hop, int end) {
        return Wire.message(1, Wire.REQUEST | Wire.PASSED | flags, Wire.ASK, 4, hop, end, Wire.text(263, "s"),
                Wire.origin("m.home", "home"), Wire.text(283, "e"), Wire.text(293, "c.d"), Wire.number(258, 4),
                Wire.number(285, 0));
    }

    private static void asked(int i, int result, int peer, int sent, int hop, int end) {
        check.due("result of " + i, node.asked(i, 0), result);
        check.due("peer of " + i, node.asked(i, 1), peer);
        check.due("sendings of " + i, node.asked(i, 2), sent);
        check.due("hop of " + i, node.asked(i, 3), hop);
        check.due("end of " + i, node.asked(i, 4), end);
    }

    private static void refusals() {
        open(0, true, false, false);
        check.due("no session", node.ask(0), -1);
        check.due("no session", node.ask(-1), -1);
        open(1, true, false, false);
        check.due("no session", node.ask(1), -1);
        check.due("no ask", node.asked(0, 0), -1);
        check.due("no ask", node.asked(-1, 9), -1);
        check.due("asked", node.ask(0), 0);
        check.due("no what", node.asked(0, 5), -2);
        check.due("no what", node.asked(0, -1), -2);
        check.due("no ask", node.asked(1, 0), -1);
        node.gone(1);
        check.due("no peer is usable", node.ask(0), -3);
        check.due("none was made", node.asked(1, 0), -1);
    }

    private static void sent() {
        open(1, true, false, false);
        check.due("ask", node.ask(0), 0);
        asked(0, 0, 1, 1, 1, 1);
        check.due("the ask", Check.take(node, 1), ask(0, 1, 1));
        check.due("ask", node.ask(0), 1);
        asked(1, 0, 1, 1, 2, 2);
        check.due("the ask", Check.take(node, 1), ask(0, 2, 2));
        // The longest texts.
        String name = "n".repeat(40);
        String host = "h".repeat(40);
        String realm = "r".repeat(40);
        Check.feed(node, 1, Wire.request(Wire.CREDIT, 1, 1, Wire.text(263, name), Wire.origin(host, realm),
                Wire.number(416, 1), Wire.number(415, 0), Wire.subscriber("120")));
        Check.drain(node, 1);
        node.ask(1);
        check.due("the longest ask", Check.take(node, 1), Wire.message(1, 192, Wire.ASK, 4, 3, 3, Wire.text(263, name),
                Wire.origin("m.home", "home"), Wire.text(283, realm), Wire.text(293, host), Wire.number(258, 4),
                Wire.number(285, 0)));
    }

    private static void byWhom() {
        open(2, true, true, true);
        node.ask(0);
        asked(0, 0, 2, 1, 1, 1);
        Check.feed(node, 3, Wire.credit("s", 51, 2, 1));
        node.ask(0);
        asked(1, 0, 3, 1, 2, 2);
        Check.feed(node, 1, Wire.credit("s", 52, 2, 1));
        node.ask(0);
        asked(2, 0, 3, 1, 3, 3);
        node.gone(3);
        node.ask(0);
        asked(3, 0, 1, 1, 6, 6);
        // A PEER that is BACK is not usable.
        node.accept();
        Check.feed(node, 3, Wire.opening("c", 1, 1));
        check.due("back", node.state(3, 3), 4);
        node.ask(0);
        asked(4, 0, 1, 1, 8, 8);
        node.gone(1);
        node.ask(0);
        asked(5, 0, 2, 1, 13, 13);
        node.gone(2);
        check.due("none", node.ask(0), -3);
    }

    private static void results() {
        open(1, true, true, false);
        for (int i = 0; i < 5; i++) {
            node.ask(0);
        }
        Check.feed(node, 1, Wire.reply(Wire.ASK, 2, 2001, "x"));
        asked(1, 2001, 1, 1, 2, 2);
        asked(0, 0, 1, 1, 1, 1);
        Check.feed(node, 1, Wire.reply(Wire.ASK, 1, 0, "x"));
        asked(0, 1, 1, 1, 1, 1);
        Check.feed(node, 1, Wire.reply(Wire.ASK, 3, 4294967295L, "x"));
        asked(2, -1, 1, 1, 3, 3);
        check.due("nothing lost", node.lost(), 0);
        // None of these is the ANSWER.
        Check.feed(node, 1, Wire.reply(Wire.WATCH, 4, 2001, "x"));
        Check.feed(node, 2, Wire.reply(Wire.ASK, 4, 2001, "x"));
        Check.feed(node, 1, Wire.reply(Wire.ASK, 9, 2001, "x"));
        Check.feed(node, 1, Wire.message(1, 0, Wire.ASK, 4, 4, 4, Wire.number(268, 2001), Wire.text(264, "x")));
        Check.feed(node, 1, Wire.reply(Wire.ASK, 2, 5012, "x"));
        asked(3, 0, 1, 1, 4, 4);
        asked(1, 2001, 1, 1, 2, 2);
        check.due("lost", node.lost(), 5);
        Check.feed(node, 1, Wire.message(1, Wire.FAULT | Wire.PASSED, Wire.ASK, 99, 4, 77, Wire.number(268, 3002),
                Wire.origin("x", "y")));
        asked(3, 3002, 1, 1, 4, 4);
        check.due("a request is none", Check.feed(node, 1, Wire.message(1, 128, Wire.ASK, 4, 5, 5)), 1);
        asked(4, 0, 1, 1, 5, 5);
    }

    private static void givenOverWhenDown() {
        open(2, true, true, true);
        node.ask(0);
        node.ask(0);
        node.ask(0);
        Check.feed(node, 2, Wire.reply(Wire.ASK, 2, 2001, "x"));
        node.gone(2);
        check.due("given over", node.state(2, 6), 1);
        asked(0, 0, 1, 2, 4, 1);
        asked(1, 2001, 2, 1, 2, 2);
        asked(2, 0, 1, 2, 5, 3);
        check.due("again", Check.take(node, 1), ask(Wire.AGAIN, 4, 1));
        check.due("again", Check.take(node, 1), ask(Wire.AGAIN, 5, 3));
        check.due("no more", node.waiting(1), 0);
        Check.feed(node, 1, Wire.reply(Wire.ASK, 1, 2001, "x"));
        asked(0, 0, 1, 2, 4, 1);
        check.due("the old hop is lost", node.lost(), 1);
        Check.feed(node, 1, Wire.reply(Wire.ASK, 4, 2002, "x"));
        asked(0, 2002, 1, 2, 4, 1);
        node.gone(1);
        asked(2, 0, 3, 3, 6, 3);
        check.due("and again", Check.take(node, 3), ask(Wire.AGAIN, 6, 3));
        node.gone(3);
        asked(2, 3002, 3, 3, 6, 3);
        asked(0, 2002, 1, 2, 4, 1);
    }

    private static void givenOverWhenSilent() {
        open(1, true, true, false);
        node.ask(0);
        node.tick(30);
        Check.feed(node, 2, Wire.reply(Wire.WATCH, 3, 2001, "b"));
        check.due("three timers", node.tick(60), 3);
        check.due("silent", node.state(1, 3), 2);
        asked(0, 0, 2, 2, 4, 1);
        check.due("its own watch comes behind", node.state(2, 4), 1);
        Check.feed(node, 1, Wire.reply(Wire.ASK, 1, 2001, "x"));
        check.due("good by it", node.state(1, 3), 1);
        asked(0, 0, 2, 2, 4, 1);
        check.due("but lost", node.lost(), 1);
        Check.feed(node, 2, Wire.reply(Wire.ASK, 4, 2001, "x"));
        asked(0, 2001, 2, 2, 4, 1);
    }

    private static void stays() {
        open(1, true, false, false);
        node.ask(0);
        node.ask(0);
        node.tick(60);
        check.due("silent", node.state(1, 3), 2);
        asked(0, 0, 1, 1, 1, 1);
        check.due("not usable", node.ask(0), -3);
        Check.feed(node, 1, Wire.reply(Wire.ASK, 1, 2001, "x"));
        asked(0, 2001, 1, 1, 1, 1);
        check.due("nothing lost", node.lost(), 0);
        check.due("good", node.state(1, 3), 1);
        node.tick(120);
        check.due("down", node.state(1, 3), 3);
        asked(1, 3002, 1, 1, 2, 2);
        check.due("given over three times", node.state(1, 6), 3);
        // Its RESULT stays, whoever comes.
        node.accept();
        Check.feed(node, 1, Wire.opening("a", 1, 1));
        Check.feed(node, 1, Wire.reply(Wire.ASK, 2, 2001, "x"));
        asked(1, 3002, 1, 1, 2, 2);
    }

    private static void sentAgainAsItWas() {
        open(1, true, true, false);
        node.ask(0);
        Check.feed(node, 2, Wire.request(Wire.CREDIT, 1, 1, Wire.text(263, "s"), Wire.origin("q", "p"), Wire.number(416, 2),
                Wire.number(415, 5)));
        node.ask(0);
        Check.feed(node, 2, Wire.credit("s", 99, 3, 9));
        check.due("the session is no more", node.sessions(), 0);
        Check.drain(node, 2);
        node.gone(1);
        check.due("sent again", Check.take(node, 2), ask(Wire.AGAIN, 3, 1));
        asked(1, 0, 2, 1, 2, 2);
    }

    private static void stopped() {
        open(1, true, true, false);
        node.ask(0);
        node.stop(1, 0);
        asked(0, 0, 2, 2, 3, 1);
        check.due("ending came first", node.state(1, 0), 7);
        Check.feed(node, 1, Wire.reply(Wire.ASK, 1, 2001, "x"));
        check.due("lost when ending", node.lost(), 1);
        Check.feed(node, 2, Wire.ending("b", 9));
        asked(0, 3002, 2, 2, 3, 1);
        check.due("given over once each", node.state(1, 6) + node.state(2, 6), 2);
    }

    private static void sixtyFour() {
        open(1, true, false, false);
        for (int i = 0; i < 64; i++) {
            check.due("ask", node.ask(0), i);
        }
        check.due("a 65th", node.ask(0), -4);
        // 18 asks of 108 octets had room.
        check.due("those without room are lost", node.lost(), 64 - 2000 / ask(0, 1, 1).length);
        asked(63, 0, 1, 1, 64, 64);
        Check.feed(node, 1, Wire.reply(Wire.ASK, 64, 7, "x"));
        asked(63, 7, 1, 1, 64, 64);
        node.gone(1);
        asked(62, 3002, 1, 1, 63, 63);
        asked(63, 7, 1, 1, 64, 64);
        check.due("-3 before -4", node.ask(0), -3);
        check.due("-1 before -3", node.ask(1), -1);
    }
}
