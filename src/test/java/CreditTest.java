/** Promises 17 to 21 and 24, with 8 and 11: accounts, sessions, credit, answers that are kept. */
public final class CreditTest {
    private static final Check check = new Check();
    private static final long MOST = 1L << 60;
    private static QuotaPeers node;
    private static long end;

    public static void main(String[] args) {
        accounts();
        values();
        begins();
        beginsRefused();
        whoIsIt();
        goesOn();
        goesOnRefused();
        counts();
        ends();
        grants();
        onceCharged();
        onceGivenBack();
        onceLooked();
        groupsAndFirstOnes();
        sessionsEndByTime();
        manySessions();
        keptAnswers();
        keptWithPassed();
        keptByTime();
        keptByNumber();
        wrongOnesAreNotKept();
        check.end("CreditTest");
    }

    private static void open() {
        node = new QuotaPeers();
        end = 100;
        Check.peer(node, "a.b", false);
        Check.peer(node, "b", false);
        for (int c = 1; c <= 2; c++) {
            node.accept();
            Check.feed(node, c, Wire.opening(c == 1 ? "a.b" : "b", 1, 1));
            Check.drain(node, c);
        }
        node.account(120, 5000);
        node.account(7, 0);
    }

    /** Each one with an END of its own. */
    private static void credit(String session, long type, long count, int result, byte[] told, byte[]... more) {
        end++;
        String what = session + " type " + type + " count " + count;
        check.due(what + ": done", Check.feed(node, 1, Wire.credit(session, end, type, count, more)), 1);
        check.due(what, Check.take(node, 1), Wire.creditAnswer(session, end, result, type, count, told));
    }

    private static void refused(String session, long type, long count, int result, byte[]... more) {
        credit(session, type, count, result, new byte[0], more);
    }

    private static void account(long number, long balance, long reserved, long charged) {
        check.due("balance", node.balance(number, 0), balance);
        check.due("reserved", node.balance(number, 1), reserved);
        check.due("charged", node.balance(number, 2), charged);
    }

    private static byte[] who(String who) {
        return Wire.subscriber(who);
    }

    private static void accounts() {
        QuotaPeers x = new QuotaPeers();
        check.due("number 0", x.account(0, 0), -2);
        check.due("number below", x.account(-1, 0), -2);
        check.due("number above", x.account(100000000000000000L, 0), -2);
        check.due("balance below", x.account(1, -1), -2);
        check.due("balance above", x.account(1, MOST + 1), -2);
        check.due("account 1", x.account(1, MOST), 1);
        check.due("-2 before -3", x.account(1, -1), -2);
        check.due("again", x.account(1, 5), -3);
        check.due("the last number", x.account(99999999999999999L, 0), 2);
        for (int i = 3; i <= 16; i++) {
            check.due("account", x.account(i, i), i);
        }
        check.due("-3 before -4", x.account(3, 0), -3);
        check.due("a seventeenth", x.account(17, 0), -4);
        check.due("-2 before -4", x.account(0, 0), -2);
        check.due("balance", x.balance(1, 0), MOST);
        check.due("balance", x.balance(99999999999999999L, 0), 0);
        check.due("reserved", x.balance(1, 1), 0);
        check.due("charged", x.balance(1, 2), 0);
        check.due("no what", x.balance(1, 3), -2);
        check.due("no what", x.balance(1, -1), -2);
        check.due("no account", x.balance(17, 0), -1);
        check.due("-1 before -2", x.balance(0, 3), -1);
    }

    private static void values() {
        open();
        refused("s", 0, 1, 5004, who("120"));
        refused("s", 5, 1, 5004, who("120"));
        refused("s", 4294967295L, 1, 5004, who("120"));
        long[] wrong = {-1, Long.MIN_VALUE, MOST + 1, Long.MAX_VALUE};
        for (long units : wrong) {
            refused("s", 1, 1, 5004, who("120"), Wire.wanted(units));
            refused("s", 1, 1, 5004, who("120"), Wire.used(units));
            refused("s", 2, 1, 5004, Wire.used(units));
            refused("s", 3, 1, 5004, Wire.wanted(units));
            refused("s", 4, 1, 5004, who("120"), Wire.number(436, 2), Wire.used(units));
        }
        refused("s", 4, 1, 5004, who("120"));
        refused("s", 4, 1, 5004, who("120"), Wire.number(436, 3));
        refused("s", 4, 1, 5004, who("120"), Wire.number(436, 4294967295L));
        refused("s", 4, 1, 5004, who("120"), Wire.group(437, Wire.number(436, 0)));
        refused("s", 4, 1, 5030, Wire.number(436, 2));
        credit("s", 1, 1, 2001, Wire.told(1), who("120"), Wire.number(436, 9), Wire.wanted(1), Wire.used(MOST));
        check.due("sessions", node.sessions(), 1);
    }

    private static void begins() {
        open();
        node.tick(3);
        credit("session", 1, 4294967295L, 2001, Wire.told(2000), who("120"), Wire.wanted(2000));
        account(120, 5000, 2000, 0);
        check.due("sessions", node.sessions(), 1);
        check.due("octets of its name", node.session(0, 0), 7);
        check.due("count", node.session(0, 1), -1);
        check.due("peer", node.session(0, 2), 1);
        check.due("ends", node.session(0, 3), 603);
        check.due("grant", node.granted(0), 2000);
        check.due("no what", node.session(0, 4), -2);
        check.due("no what", node.session(0, -1), -2);
        check.due("no session", node.session(1, 0), -1);
        check.due("no session", node.session(-1, 9), -1);
        check.due("no session", node.granted(1), -1);
        check.due("no session", node.granted(-1), -1);
    }

    private static void beginsRefused() {
        open();
        refused("s", 1, 0, 5030);
        refused("s", 1, 0, 5030, who("121"));
        refused("s", 1, 0, 4012, who("7"));
        check.due("no session is made", node.sessions(), 0);
        credit("s", 1, 0, 2001, Wire.told(1000), who("120"));
        refused("s", 1, 1, 5012, who("120"));
        refused("s", 1, 1, 5012, who("7"));
        refused("s", 1, 1, 5030, who("8"));
        credit("t", 1, 0, 2001, Wire.told(4000), who("120"), Wire.wanted(MOST));
        refused("u", 1, 0, 4012, who("120"), Wire.wanted(0));
        account(120, 5000, 5000, 0);
    }

    private static void whoIsIt() {
        open();
        node.account(99999999999999999L, 10);
        credit("a", 1, 0, 2001, Wire.told(1), who("00000000000000120"), Wire.wanted(1));
        refused("b", 1, 0, 5030, who("000000000000000120"));
        refused("b", 1, 0, 5030, who("12a"));
        refused("b", 1, 0, 5030, who("-120"));
        refused("b", 1, 0, 5030, who("120 "));
        refused("b", 1, 0, 5030, who("/20"));
        refused("b", 1, 0, 5030, who("12:"));
        // Taken as digits of 10 and -10 these would tell 120.
        refused("b", 1, 0, 5030, who("11:"));
        refused("b", 1, 0, 5030, who("13&"));
        refused("b", 1, 0, 5030, who("0"));
        refused("b", 1, 0, 5030, who("12"));
        refused("b", 1, 0, 5030, who("1200"));
        credit("c", 1, 0, 2001, Wire.told(1), who("99999999999999999"), Wire.wanted(1));
        refused("b", 1, 0, 5030, Wire.text(444, "120"));
        refused("b", 1, 0, 5030, Wire.group(443));
        refused("b", 1, 0, 5030, Wire.group(443, Wire.group(437, Wire.text(444, "120"))));
        refused("b", 1, 0, 5030, Wire.group(443, Wire.text(444, "5"), Wire.text(444, "120")));
        refused("b", 1, 0, 5030, who("5"), who("120"));
        credit("d", 1, 0, 2001, Wire.told(1), Wire.group(443, Wire.number(450, 0), Wire.text(444, "120")), who("5"),
                Wire.wanted(1));
    }

    private static void goesOn() {
        open();
        credit("s", 1, 5, 2001, Wire.told(2000), who("120"), Wire.wanted(2000));
        node.tick(10);
        credit("s", 2, 6, 2001, Wire.told(3000), Wire.used(500), Wire.wanted(3000));
        account(120, 4500, 3000, 500);
        check.due("ends", node.session(0, 3), 610);
        check.due("count", node.session(0, 1), 6);
        credit("s", 2, 7, 2001, Wire.told(1000), Wire.used(4000));
        account(120, 1500, 1000, 3500);
        credit("s", 2, 8, 2001, Wire.told(1500), Wire.wanted(MOST));
        account(120, 1500, 1500, 3500);
        node.tick(20);
        refused("s", 2, 9, 4012, Wire.used(1500), Wire.wanted(1));
        account(120, 0, 0, 5000);
        check.due("the grant is 0", node.granted(0), 0);
        check.due("its count", node.session(0, 1), 9);
        check.due("it ends later, too", node.session(0, 3), 620);
        refused("s", 2, 9, 5012);
        check.due("still there", node.sessions(), 1);

        // 4012 when another has reserved what is left.
        open();
        credit("s", 1, 0, 2001, Wire.told(1000), who("120"));
        credit("t", 1, 0, 2001, Wire.told(4000), who("120"), Wire.wanted(4000));
        refused("s", 2, 1, 4012, Wire.used(1000));
        account(120, 4000, 4000, 1000);
    }

    private static void goesOnRefused() {
        open();
        refused("s", 2, 1, 5002, who("120"));
        refused("s", 3, 1, 5002, who("120"));
        credit("s", 1, 5, 2001, Wire.told(1000), who("120"));
        refused("S", 2, 6, 5002);
        refused("ss", 2, 6, 5002);
        node.tick(10);
        refused("s", 2, 5, 5012, Wire.used(10));
        refused("s", 3, 4, 5012, Wire.used(10));
        refused("s", 3, 5, 5012, Wire.used(10));
        account(120, 5000, 1000, 0);
        check.due("it ends as before", node.session(0, 3), 600);
        check.due("the count", node.session(0, 1), 5);
    }

    private static void counts() {
        open();
        credit("s", 1, 2147483647L, 2001, Wire.told(1000), who("120"));
        credit("s", 2, 2147483648L, 2001, Wire.told(1000));
        check.due("the count", node.session(0, 1), Integer.MIN_VALUE);
        refused("s", 2, 1, 5012);
        credit("s", 2, 4294967295L, 2001, Wire.told(1000));
        check.due("the count", node.session(0, 1), -1);
        refused("s", 3, 4294967295L, 5012);
        refused("s", 3, 0, 5012);
    }

    private static void ends() {
        open();
        credit("a", 1, 0, 2001, Wire.told(100), who("120"), Wire.wanted(100));
        credit("bb", 1, 0, 2001, Wire.told(200), who("120"), Wire.wanted(200));
        credit("ccc", 1, 0, 2001, Wire.told(300), who("120"), Wire.wanted(300));
        refused("bb", 3, 1, 2001, Wire.used(150), Wire.wanted(5));
        account(120, 4850, 400, 150);
        check.due("sessions", node.sessions(), 2);
        check.due("the first", node.session(0, 0), 1);
        check.due("the second now", node.session(1, 0), 3);
        check.due("its grant", node.granted(1), 300);
        refused("bb", 3, 2, 5002);
        refused("a", 3, 1, 2001, Wire.used(1000));
        account(120, 4750, 300, 250);
        refused("ccc", 3, 1, 2001);
        account(120, 4750, 0, 250);
        check.due("none", node.sessions(), 0);
        credit("bb", 1, 0, 2001, Wire.told(1000), who("120"));
    }

    private static void grants() {
        open();
        node.account(9, MOST);
        credit("a", 1, 0, 2001, Wire.told(0), who("120"), Wire.wanted(0));
        credit("b", 1, 0, 2001, Wire.told(1000), who("120"), Wire.group(437));
        credit("c", 1, 0, 2001, Wire.told(1000), who("120"), Wire.group(437, Wire.number(448, 5)));
        credit("d", 1, 0, 2001, Wire.told(MOST), who("9"), Wire.wanted(MOST));
        refused("d", 2, 1, 4012, Wire.used(MOST));
        account(9, 0, 0, MOST);
        credit("e", 1, 0, 2001, Wire.told(3000), who("120"), Wire.wanted(3001));
        account(120, 5000, 5000, 0);
    }

    private static void onceCharged() {
        open();
        byte[] charge = Wire.number(436, 0);
        refused("s", 4, 0, 2001, charge, who("120"), Wire.wanted(4000));
        account(120, 1000, 0, 4000);
        refused("s", 4, 0, 4012, charge, who("120"), Wire.wanted(1001));
        credit("t", 1, 0, 2001, Wire.told(600), who("120"), Wire.wanted(600));
        refused("t", 4, 0, 4012, charge, who("120"), Wire.wanted(401));
        account(120, 1000, 600, 4000);
        refused("t", 4, 0, 2001, charge, who("120"), Wire.wanted(400));
        account(120, 600, 600, 4400);
        refused("t", 4, 0, 2001, charge, who("120"));
        refused("t", 4, 0, 2001, charge, who("7"), Wire.group(437));
        refused("t", 4, 0, 4012, charge, who("7"), Wire.wanted(1));
        refused("t", 4, 0, 5030, charge, who("8"));
        account(120, 600, 600, 4400);
        check.due("no session is made", node.sessions(), 1);
        check.due("none is looked at", node.session(0, 1), 0);
    }

    private static void onceGivenBack() {
        open();
        byte[] back = Wire.number(436, 1);
        refused("s", 4, 0, 2001, back, who("120"), Wire.wanted(MOST - 5000));
        account(120, MOST, 0, 5000 - MOST);
        refused("s", 4, 0, 5012, back, who("120"), Wire.wanted(1));
        refused("s", 4, 0, 5012, back, who("120"), Wire.wanted(MOST));
        refused("s", 4, 0, 2001, back, who("120"), Wire.wanted(0));
        refused("s", 4, 0, 2001, back, who("120"));
        account(120, MOST, 0, 5000 - MOST);
        refused("s", 4, 0, 5030, back);
        refused("s", 4, 0, 2001, back, who("7"), Wire.wanted(MOST));
        account(7, MOST, 0, -MOST);
    }

    private static void onceLooked() {
        open();
        byte[] look = Wire.number(436, 2);
        credit("s", 4, 0, 2001, Wire.number(422, 0), look, who("120"), Wire.wanted(5000));
        credit("s", 4, 0, 2001, Wire.number(422, 1), look, who("120"), Wire.wanted(5001));
        credit("t", 1, 0, 2001, Wire.told(1000), who("120"));
        credit("s", 4, 0, 2001, Wire.number(422, 1), look, who("120"), Wire.wanted(4001));
        credit("s", 4, 0, 2001, Wire.number(422, 0), look, who("7"));
        credit("s", 4, 0, 2001, Wire.number(422, 1), look, who("7"), Wire.wanted(1));
        refused("s", 4, 0, 5030, look, who("6"), Wire.wanted(1));
        account(120, 5000, 1000, 0);
    }

    private static void groupsAndFirstOnes() {
        open();
        // The first WANTED counts, and in it the first UNITS among its own.
        credit("a", 1, 0, 2001, Wire.told(10), who("120"), Wire.wanted(10), Wire.wanted(-5));
        credit("b", 1, 0, 2001, Wire.told(20), who("120"), Wire.group(437, Wire.group(446, Wire.units(-1)),
                Wire.units(20), Wire.units(-1)));
        credit("c", 1, 0, 2001, Wire.told(1000), who("120"), Wire.group(437), Wire.wanted(5));
        credit("d", 1, 0, 2001, Wire.told(1000), who("120"), Wire.units(5), Wire.group(437, Wire.group(446, Wire.units(5))));
        credit("e", 1, 0, 2001, Wire.told(30), who("120"), Wire.group(437, Wire.attribute(421, 128, new byte[8]),
                Wire.units(30)));
        refused("s", 4, 0, 2001, Wire.number(436, 0), Wire.number(436, 2), who("120"), Wire.wanted(1));
        account(120, 4999, 2060, 1);
    }

    private static void sessionsEndByTime() {
        open();
        credit("a", 1, 0, 2001, Wire.told(1000), who("120"));
        node.tick(10);
        credit("b", 1, 0, 2001, Wire.told(1000), who("120"));
        credit("a", 2, 1, 2001, Wire.told(500), Wire.wanted(500));
        node.tick(20);
        credit("c", 1, 0, 2001, Wire.told(700), who("120"), Wire.wanted(700));
        int timers = node.tick(609);
        check.due("timers of two peers alone", timers, 39);
        check.due("three", node.sessions(), 3);
        account(120, 5000, 2200, 0);
        check.due("two end", node.tick(610), 2);
        check.due("one is left", node.sessions(), 1);
        check.due("it is c", node.granted(0), 700);
        account(120, 5000, 700, 0);
        check.due("the last, and a timer", node.tick(620), 2);
        account(120, 5000, 0, 0);
        check.due("none", node.sessions(), 0);
        // One that was made later ends before one that went on.
        open();
        credit("a", 1, 0, 2001, Wire.told(1000), who("120"));
        credit("b", 1, 0, 2001, Wire.told(500), who("120"), Wire.wanted(500));
        node.tick(1);
        credit("a", 2, 1, 2001, Wire.told(1000));
        node.tick(600);
        check.due("one is left", node.sessions(), 1);
        check.due("it is a", node.granted(0), 1000);
        check.due("it ends", node.tick(601), 1 + 1);
    }

    private static void manySessions() {
        open();
        for (int i = 0; i < 16; i++) {
            credit("s" + i, 1, 0, 2001, Wire.told(1), who("120"), Wire.wanted(1));
        }
        check.due("sixteen", node.sessions(), 16);
        refused("s16", 1, 0, 5012, who("7"));
        refused("s16", 1, 0, 5030, who("8"));
        refused("s3", 3, 1, 2001);
        credit("s16", 1, 0, 2001, Wire.told(1), who("120"), Wire.wanted(1));
        check.due("the last one's name", node.session(15, 0), 3);
        // Names of 40 octets that differ in the last one, and octets of any value.
        open();
        String name = "\u00ff\u0000".repeat(19) + "x";
        credit(name + "y", 1, 0, 2001, Wire.told(1), who("120"), Wire.wanted(1));
        refused(name + "z", 2, 1, 5002);
        refused(name, 2, 1, 5002);
        credit(name + "y", 2, 1, 2001, Wire.told(1000));
        check.due("octets", node.session(0, 0), 40);
    }

    private static void keptAnswers() {
        open();
        byte[] first = Wire.credit("s", 50, 1, 0, who("120"));
        Check.feed(node, 1, first);
        byte[] answer = Check.take(node, 1);
        check.due("kept", node.kept(), 1);
        Check.feed(node, 1, first);
        check.due("the same", Check.take(node, 1), answer);
        check.due("kept", node.kept(), 1);
        check.due("one session", node.sessions(), 1);
        account(120, 5000, 1000, 0);
        // By HOST and END alone, by another PEER too; with its own HOP, but PASSED as it was at first.
        Check.feed(node, 2, Wire.message(1, Wire.REQUEST | Wire.PASSED | Wire.AGAIN, Wire.CREDIT, 4, 77, 50,
                Wire.text(263, "t"), Wire.origin("c.d", "other"), Wire.number(416, 9), Wire.number(415, 8)));
        check.due("that answer", Check.take(node, 2), Wire.message(1, 0, Wire.CREDIT, 4, 77, 50,
                Wire.text(263, "s"), Wire.number(268, 2001), Wire.origin("m.home", "home"), Wire.number(258, 4),
                Wire.number(416, 1), Wire.number(415, 0), Wire.told(1000)));
        check.due("the peer of the session", node.session(0, 2), 1);
        Check.feed(node, 1, first);
        check.due("the first hop again", Check.take(node, 1), answer);
        // Another HOST or another END is another one.
        Check.feed(node, 2, Wire.request(Wire.CREDIT, 78, 50, Wire.text(263, "s"), Wire.origin("c.e", "e"),
                Wire.number(416, 2), Wire.number(415, 1)));
        check.due("another host", node.session(0, 2), 2);
        check.due("kept", node.kept(), 2);
        Check.feed(node, 1, Wire.credit("s", 51, 2, 2));
        check.due("another end", node.session(0, 1), 2);
        check.due("kept", node.kept(), 3);
        // All RESULTS are kept, if they are not WRONG.
        Check.drain(node, 1);
        refused("s", 7, 0, 5004);
        refused("s", 1, 0, 5030);
        refused("s", 1, 0, 5012, who("120"));
        refused("x", 2, 0, 5002);
        refused("x", 1, 0, 4012, who("7"));
        check.due("kept", node.kept(), 8);
    }

    private static void keptWithPassed() {
        open();
        keptWithFlags(Wire.PASSED, 2001, Wire.told(1000), 61, 1);
        keptWithFlags(0, 5012, new byte[0], 62, 1);
        keptWithFlags(Wire.PASSED, 5004, new byte[0], 63, 9);
    }

    /** A CREDIT that comes three times: the flag PASSED of the first one is that of each ANSWER. */
    private static void keptWithFlags(int first, int result, byte[] told, int end, int type) {
        for (int i = 0; i < 3; i++) {
            int flags = i == 1 ? first ^ Wire.PASSED : first;
            Check.feed(node, 1, Wire.message(1, Wire.REQUEST | flags, Wire.CREDIT, 4, 900 + i, end,
                    Wire.text(263, "s"), Wire.origin("c.d", "other"), Wire.number(416, type), Wire.number(415, 3),
                    who("120")));
            check.due("passed as at first", Check.take(node, 1), Wire.message(1, first, Wire.CREDIT, 4, 900 + i, end,
                    Wire.text(263, "s"), Wire.number(268, result), Wire.origin("m.home", "home"), Wire.number(258, 4),
                    Wire.number(416, type), Wire.number(415, 3), told));
        }
    }

    private static void keptByTime() {
        open();
        byte[] first = Wire.credit("s", 50, 4, 0, Wire.number(436, 0), who("120"), Wire.wanted(10));
        Check.feed(node, 1, first);
        node.tick(25);
        Check.feed(node, 1, first);
        Check.feed(node, 1, Wire.credit("s", 51, 4, 0, Wire.number(436, 0), who("120"), Wire.wanted(10)));
        check.due("two", node.kept(), 2);
        for (int t = 50; t <= 225; t += 25) {
            node.tick(t);
            Check.feed(node, 1, Wire.watch("a.b", 1));
        }
        Check.drain(node, 1);
        node.tick(239);
        check.due("at 239", node.kept(), 2);
        Check.feed(node, 1, first);
        check.due("charged once", node.balance(120, 2), 20);
        node.tick(240);
        check.due("at 240", node.kept(), 1);
        Check.feed(node, 1, first);
        check.due("charged anew", node.balance(120, 2), 30);
        check.due("kept anew", node.kept(), 2);
        node.tick(264);
        check.due("at 264", node.kept(), 2);
        node.tick(265);
        check.due("at 265", node.kept(), 1);
        node.tick(480);
        check.due("at 480", node.kept(), 0);
        // Also when nothing is asked in between.
        open();
        Check.feed(node, 1, first);
        for (int t = 20; t <= 240; t += 20) {
            node.tick(t);
            Check.feed(node, 1, Wire.watch("a.b", 1));
        }
        Check.feed(node, 1, first);
        check.due("charged twice", node.balance(120, 2), 20);
    }

    private static void keptByNumber() {
        open();
        for (int i = 0; i < 32; i++) {
            Check.feed(node, 1, Wire.credit("s", i, 4, 0, Wire.number(436, 0), who("120"), Wire.wanted(1)));
            check.due("kept", node.kept(), i + 1);
        }
        Check.drain(node, 1);
        Check.feed(node, 1, Wire.credit("s", 0, 4, 0, Wire.number(436, 0), who("120"), Wire.wanted(1)));
        check.due("the first of 32", node.balance(120, 2), 32);
        Check.feed(node, 1, Wire.credit("s", 32, 4, 0, Wire.number(436, 0), who("120"), Wire.wanted(1)));
        check.due("33", node.kept(), 32);
        Check.feed(node, 1, Wire.credit("s", 1, 4, 0, Wire.number(436, 0), who("120"), Wire.wanted(1)));
        check.due("the second is there", node.balance(120, 2), 33);
        Check.feed(node, 1, Wire.credit("s", 0, 4, 0, Wire.number(436, 0), who("120"), Wire.wanted(1)));
        check.due("the first is no more", node.balance(120, 2), 34);
        Check.feed(node, 1, Wire.credit("s", 1, 4, 0, Wire.number(436, 0), who("120"), Wire.wanted(1)));
        check.due("then the second", node.balance(120, 2), 35);
        check.due("still 32", node.kept(), 32);
    }

    private static void wrongOnesAreNotKept() {
        open();
        Check.feed(node, 1, Wire.request(Wire.CREDIT, 5, 6, Wire.text(263, "s"), Wire.origin("c.d", "e"), Wire.number(416, 1)));
        check.due("answered", Check.take(node, 1), Wire.message(1, 0, Wire.CREDIT, 4, 5, 6, Wire.text(263, "s"),
                Wire.number(268, 5005), Wire.origin("m.home", "home"), Wire.failed(415)));
        check.due("not kept", node.kept(), 0);
        // A WRONG one with the HOST and END of one that is kept is WRONG.
        Check.feed(node, 1, Wire.credit("s", 6, 1, 0, who("120")));
        Check.drain(node, 1);
        Check.feed(node, 1, Wire.request(Wire.CREDIT, 5, 6, Wire.text(263, "s"), Wire.origin("c.d", "e"), Wire.number(416, 1)));
        check.due("wrong", Check.take(node, 1), Wire.message(1, 0, Wire.CREDIT, 4, 5, 6, Wire.text(263, "s"),
                Wire.number(268, 5005), Wire.origin("m.home", "home"), Wire.failed(415)));
        check.due("one kept", node.kept(), 1);
    }
}
