/** Terms, CREDIT and THE CLOCK: each sentence that names a boundary has a test of its own, at it and on both sides. */
public final class EdgesOfCreditTest {
    private static final Check check = new Check();
    private static final long MOST = 1L << 60;
    private static final byte[] NONE = new byte[0];
    private static final byte[] WHO = Wire.subscriber("120");
    private static QuotaPeers node;
    private static long end;

    public static void main(String[] args) {
        accountNumbers();
        accountBalances();
        sixteenAccounts();
        sixteenSessions();
        keptForSeconds();
        keptByHostAndEnd();
        keptAndNothingElse();
        keptTheLast();
        wrongOnesAreNotKept();
        types();
        unitsInGroups();
        actions();
        firstFits();
        subscribers();
        digits();
        beginsTwice();
        beginsWithFree();
        goesOnWithout();
        counts();
        goesOnWithFree();
        endsIt();
        onceLooksAtNoSession();
        charges();
        givesBack();
        enough();
        withoutWanted();
        grants();
        usualGrants();
        told();
        endsByItsTime();
        endsLater();
        charged();
        nothingCharged();
        theSessions();
        clockSeconds();
        clockOrder();
        check.end("EdgesOfCreditTest");
    }

    /** A new node with ACCOUNT 120. */
    private static void begin(long balance) {
        node = Scene.withAccount(balance);
        end = 100;
    }

    /** A CREDIT with an END of its own: its whole ANSWER. */
    private static void credit(String what, String session, long type, long count, int result, byte[] told, byte[]... more) {
        end++;
        check.due(what + ": done", Check.feed(node, 1, Wire.credit(session, end, type, count, more)), 1);
        check.due(what, Check.take(node, 1), Wire.creditAnswer(session, end, result, type, count, told));
    }

    private static void refused(String what, String session, long type, long count, int result, byte[]... more) {
        credit(what, session, type, count, result, NONE, more);
    }

    /** Without looking at its ANSWER. */
    private static void feed(String session, long type, long count, byte[]... more) {
        end++;
        Check.feed(node, 1, Wire.credit(session, end, type, count, more));
    }

    private static void account(String when, long balance, long reserved, long charged) {
        check.due(when + ": balance", node.balance(120, 0), balance);
        check.due(when + ": reserved", node.balance(120, 1), reserved);
        check.due(when + ": charged", node.balance(120, 2), charged);
    }

    private static byte[] action(long action) {
        return Wire.number(436, action);
    }

    private static void accountNumbers() {
        check.of("An ACCOUNT has a number (1 .. 99999999999999999)");
        long[] wrong = {Long.MIN_VALUE, -1, 0, 100000000000000000L, Long.MAX_VALUE};
        for (long number : wrong) {
            check.due("number " + number, new QuotaPeers().account(number, 0), -2);
        }
        long[] right = {1, 2, 99999999999999998L, 99999999999999999L};
        for (long number : right) {
            QuotaPeers x = new QuotaPeers();
            check.due("number " + number, x.account(number, 5), 1);
            check.due("there", x.balance(number, 0), 5);
            check.due("not the one below", x.balance(number - 1, 0), -1);
            check.due("not the one above", x.balance(number + 1, 0), -1);
        }
    }

    private static void accountBalances() {
        check.of("a BALANCE (0 .. 2^60)");
        long[] wrong = {Long.MIN_VALUE, -1, MOST + 1, Long.MAX_VALUE};
        for (long balance : wrong) {
            check.due("balance " + balance, new QuotaPeers().account(1, balance), -2);
        }
        long[] right = {0, 1, MOST - 1, MOST};
        for (long balance : right) {
            QuotaPeers x = new QuotaPeers();
            check.due("balance " + balance, x.account(1, balance), 1);
            check.due("there", x.balance(1, 0), balance);
            check.due("nothing reserved", x.balance(1, 1), 0);
            check.due("nothing charged", x.balance(1, 2), 0);
        }
    }

    private static void sixteenAccounts() {
        check.of("what is RESERVED; 16 of them");
        QuotaPeers x = new QuotaPeers();
        for (int i = 1; i <= 16; i++) {
            check.due("account", x.account(i, i), i);
        }
        check.due("a seventeenth", x.account(17, 0), -4);
        check.due("it is not there", x.balance(17, 0), -1);
        check.due("the last is", x.balance(16, 0), 16);
    }

    private static void sixteenSessions() {
        check.of("the time at which it ends; 16 of them");
        begin(5000);
        for (int i = 0; i < 16; i++) {
            feed("s" + i, 1, 0, WHO, Wire.wanted(1));
            check.due("sessions", node.sessions(), i + 1);
        }
        feed("s16", 1, 0, WHO, Wire.wanted(1));
        check.due("a seventeenth", node.sessions(), 16);
        check.due("no seventeenth", node.session(16, 0), -1);
        check.due("the sixteenth", node.session(15, 0), 3);
        check.due("reserved", node.balance(120, 1), 16);
        feed("s7", 3, 1);
        check.due("one ends", node.sessions(), 15);
        feed("s16", 1, 0, WHO, Wire.wanted(1));
        check.due("there is room", node.sessions(), 16);
    }

    private static byte[] charge(long end, long units) {
        return Wire.credit("s", end, 4, 0, action(0), WHO, Wire.wanted(units));
    }

    private static void keptForSeconds() {
        check.of("KEPT are the last 32 ANSWERS to CREDITS, each for 240 seconds (at 240 it is no more)");
        int[] seconds = {0, 1, 239, 240, 241};
        for (int begun = 0; begun <= 7; begun += 7) {
            for (int second : seconds) {
                begin(5000);
                node.tick(begun);
                Check.feed(node, 1, charge(50, 10));
                // The PEER goes and comes: what is KEPT is not its own.
                node.gone(1);
                node.tick(begun + second);
                Check.peer(node, "b", false);
                Check.drain(node, Scene.come(node, "b"));
                Check.feed(node, 1, charge(50, 10));
                check.due("charged at " + second, node.balance(120, 2), second < 240 ? 10 : 20);
                check.due("kept now", node.kept(), 1);
                begin(5000);
                node.tick(begun);
                Check.feed(node, 1, charge(50, 10));
                node.tick(begun + second);
                check.due("kept at " + second, node.kept(), second < 240 ? 1 : 0);
            }
        }
        // Given again it is KEPT no longer.
        begin(5000);
        Check.feed(node, 1, charge(50, 10));
        node.tick(20);
        Check.feed(node, 1, charge(50, 10));
        node.tick(239);
        check.due("239", node.kept(), 1);
        node.tick(240);
        check.due("240", node.kept(), 0);
    }

    private static void keptByHostAndEnd() {
        check.of("by HOST and END of the CREDIT");
        String[] hosts = {"c.", "c.d", "c.dd", "c.e"};
        long[] ends = {49, 50, 51, 50 | 1L << 31};
        for (String host : hosts) {
            for (long other : ends) {
                begin(5000);
                Check.feed(node, 1, charge(50, 10));
                Check.feed(node, 1, Wire.request(Wire.CREDIT, 7, other, Wire.text(263, "t"), Wire.origin(host, "q"),
                        Wire.number(416, 4), Wire.number(415, 3), action(0), WHO, Wire.wanted(10)));
                boolean same = host.equals("c.d") && other == 50;
                check.due("host " + host + " end " + other, node.balance(120, 2), same ? 10 : 20);
                check.due("kept", node.kept(), same ? 1 : 2);
            }
        }
    }

    private static void keptAndNothingElse() {
        check.of("One with the HOST and END of one that is KEPT gets that ANSWER again (with its own HOP, PASSED as it was),"
                + " and nothing else is done.");
        for (int passed = 0; passed <= 64; passed += 64) {
            begin(5000);
            Check.feed(node, 1, Wire.message(1, 128 | passed, Wire.CREDIT, 4, 7, 50, Wire.text(263, "s"),
                    Wire.origin("c.d", "e"), Wire.number(416, 1), Wire.number(415, 5), WHO));
            byte[] answer = Wire.message(1, passed, Wire.CREDIT, 4, 7, 50, Wire.text(263, "s"), Wire.number(268, 2001),
                    Wire.origin("m.home", "home"), Wire.number(258, 4), Wire.number(416, 1), Wire.number(415, 5),
                    Wire.told(1000));
            check.due("at first", Check.take(node, 1), answer);
            node.tick(10);
            Check.feed(node, 1, Wire.message(1, 128 | 64 - passed, Wire.CREDIT, 4, 4294967295L, 50, Wire.text(263, "s"),
                    Wire.origin("c.d", "e"), Wire.number(416, 2), Wire.number(415, 6), Wire.used(10)));
            for (int i = 12; i <= 15; i++) {
                answer[i] = (byte) 255;
            }
            check.due("again", Check.take(node, 1), answer);
            account("nothing else", 5000, 1000, 0);
            check.due("the count", node.session(0, 1), 5);
            check.due("its end", node.session(0, 3), 600);
            check.due("kept", node.kept(), 1);
        }
    }

    private static void keptTheLast() {
        check.of("(When there are 33 the oldest is no more.)");
        for (int count = 31; count <= 34; count++) {
            begin(5000);
            for (int i = 0; i < count; i++) {
                Check.feed(node, 1, charge(1000 + i, 1));
            }
            check.due("kept of " + count, node.kept(), Math.min(32, count));
            Check.feed(node, 1, charge(1000 + count - 32 + (count < 32 ? 1 : 0), 1));
            check.due("the oldest of " + count, node.balance(120, 2), count);
            if (count > 32) {
                Check.feed(node, 1, charge(1000 + count - 33, 1));
                check.due("the one before it", node.balance(120, 2), count + 1);
                check.due("kept", node.kept(), 32);
            }
        }
    }

    private static void wrongOnesAreNotKept() {
        check.of("ANSWERS to WRONG ones are not KEPT.");
        begin(5000);
        Check.feed(node, 1, Wire.request(Wire.CREDIT, 7, 50, Wire.text(263, "s"), Wire.origin("c.d", "e"),
                Wire.number(416, 4), action(0), WHO, Wire.wanted(10)));
        check.due("5005", node.kept(), 0);
        Check.feed(node, 1, Wire.message(1, 129, Wire.CREDIT, 4, 7, 50, Wire.text(263, "s"), Wire.origin("c.d", "e")));
        check.due("3008", node.kept(), 0);
        Check.feed(node, 1, charge(50, 10));
        check.due("done", node.balance(120, 2), 10);
        check.due("one with 2001", node.kept(), 1);
        feed("s", 9, 0);
        feed("s", 2, 0);
        feed("s", 1, 0);
        check.due("5004, 5002, 5030", node.kept(), 4);
        Check.feed(node, 1, Wire.watch(Scene.EARLY, 99));
        check.due("no watch", node.kept(), 4);
    }

    private static void types() {
        check.of("5004 TYPE is not 1 .. 4");
        long[] types = {0, 1, 4, 5, 257, 2147483649L, 4294967295L};
        int[] results = {5004, 5030, 5030, 5004, 5004, 5004, 5004};
        for (int i = 0; i < types.length; i++) {
            begin(5000);
            refused("type " + types[i], "s", types[i], 1, results[i], action(2));
        }
        begin(5000);
        refused("type 2", "s", 2, 1, 5002);
        refused("type 3", "s", 3, 1, 5002);
    }

    private static void unitsInGroups() {
        check.of("or UNITS in WANTED or in USED (the first UNITS among its own of the first such group) are below 0"
                + " or above 2^60");
        long[] units = {Long.MIN_VALUE, -1, 0, 1, MOST - 1, MOST, MOST + 1, Long.MAX_VALUE};
        for (int group = 437; group <= 446; group += 9) {
            for (long one : units) {
                boolean right = one >= 0 && one <= MOST;
                for (int type = 1; type <= 4; type++) {
                    begin(5000);
                    int result = !right ? 5004 : type == 1 || type == 4 ? 5030 : 5002;
                    refused(group + " of " + one + " type " + type, "s", type, 1, result, action(2),
                            Wire.group(group, Wire.units(one)));
                }
            }
            begin(5000);
            refused("the first units", "s", 2, 1, 5004, Wire.group(group, Wire.units(-1), Wire.units(1)));
            refused("not the second", "s", 2, 1, 5002, Wire.group(group, Wire.units(1), Wire.units(-1)));
            begin(5000);
            refused("among its own", "s", 2, 1, 5002, Wire.group(group, Wire.group(431, Wire.units(-1)), Wire.units(1)));
            refused("the first group", "s", 2, 1, 5004, Wire.group(group, Wire.units(-1)), Wire.group(group, Wire.units(1)));
            begin(5000);
            refused("not the second", "s", 2, 1, 5002, Wire.group(group), Wire.group(group, Wire.units(-1)));
            refused("not in another group", "s", 2, 1, 5002, Wire.group(443, Wire.group(group, Wire.units(-1))));
            begin(5000);
            refused("not in granted", "s", 2, 1, 5002, Wire.group(431, Wire.units(-1)));
            refused("not in the message itself", "s", 2, 1, 5002, Wire.group(group), Wire.units(-1));
        }
    }

    private static void actions() {
        check.of("or, with TYPE 4, ACTION is above 2 or not there");
        long[] actions = {0, 1, 2, 3, 258, 2147483648L, 4294967295L};
        for (long one : actions) {
            begin(5000);
            refused("action " + one, "s", 4, 1, one <= 2 ? 5030 : 5004, action(one));
            refused("with type 1", "s", 1, 1, 5030, action(one));
            refused("with type 2", "s", 2, 1, 5002, action(one));
        }
        begin(5000);
        refused("not there", "s", 4, 1, 5004);
        refused("in a group", "s", 4, 1, 5004, Wire.group(443, action(0)));
        begin(5000);
        refused("with maker", "s", 4, 1, 5004, Wire.attribute(436, 128, new byte[4]));
        refused("not there, type 3", "s", 3, 1, 5002);
    }

    private static void firstFits() {
        check.of("Of a CREDIT that is not WRONG, the first that fits is its RESULT");
        begin(0);
        refused("5004 before 5030", "s", 1, 1, 5004, Wire.wanted(-1));
        refused("5030 before 4012", "s", 1, 1, 5030, Wire.subscriber("7"));
        refused("4012", "s", 1, 1, 4012, WHO);
        begin(5000);
        feed("s", 1, 5, WHO);
        Check.drain(node, 1);
        refused("5030 before 5012", "s", 1, 1, 5030, Wire.subscriber("7"));
        begin(1000);
        feed("s", 1, 5, WHO);
        Check.drain(node, 1);
        refused("5012 before 4012", "s", 1, 1, 5012, WHO);
        refused("4012 for another", "t", 1, 1, 4012, WHO);
    }

    private static void subscribers() {
        check.of("TYPE 1 (a SESSION begins): 5030 there is no SUBSCRIBER with WHO in it");
        begin(5000);
        refused("no subscriber", "s", 1, 0, 5030);
        refused("an empty one", "s", 1, 0, 5030, Wire.group(443));
        begin(5000);
        refused("who in the message", "s", 1, 0, 5030, Wire.text(444, "120"));
        refused("who in another group", "s", 1, 0, 5030, Wire.group(437, Wire.text(444, "120")));
        begin(5000);
        refused("who deeper", "s", 1, 0, 5030, Wire.group(443, Wire.group(437, Wire.text(444, "120"))));
        credit("who", "s", 1, 0, 2001, Wire.told(1000), Wire.group(443, Wire.text(444, "120")));
    }

    private static void digits() {
        check.of("that is 1 to 17 digits (perhaps 0s before) and the number of an ACCOUNT");
        // As digits of 10 and -10 the signs in "11:" and "13&" would tell 120.
        String[] wrong = {"0", "1", "12", "121", "1200", "000000000000000120", "0".repeat(37) + "120", "120 ", " 120",
                "12/", "12:", "/120", ":120", "11:", "13&", "+120", "-120", "1.2", "12a", "a", "\u0000", "120\u0000", "\u0131\u0132",
                "99999999999999998", "999999999999999999", "099999999999999999", "00000000000000000"};
        for (String who : wrong) {
            begin(5000);
            node.account(99999999999999999L, 1);
            refused("who " + who, "s", 1, 0, 5030, Wire.subscriber(who));
            refused("who " + who + ", type 4", "s", 4, 0, 5030, action(2), Wire.subscriber(who));
        }
        String[] right = {"120", "0120", "00120", "00000000000000120"};
        for (String who : right) {
            begin(5000);
            credit("who " + who, "s", 1, 0, 2001, Wire.told(1000), Wire.subscriber(who));
            check.due("of its account", node.balance(120, 1), 1000);
        }
        // What is no number at all is not the number of any ACCOUNT, of 1 neither.
        String[] none = {"x", "1x", "x1", "000000000000000001", "0", "\u00b1", ":", "/"};
        for (String who : none) {
            begin(5000);
            node.account(1, 1);
            refused("who " + who, "s", 1, 0, 5030, Wire.subscriber(who));
        }
        begin(5000);
        node.account(1, 1);
        refused("no who", "s", 1, 0, 5030, Wire.group(443));
        credit("one digit", "s", 1, 0, 2001, Wire.told(1), Wire.subscriber("1"));
        begin(5000);
        node.account(99999999999999999L, 7);
        credit("17 digits", "s", 1, 0, 2001, Wire.told(7), Wire.subscriber("99999999999999999"));
        begin(5000);
        node.account(10000000000000000L, 8);
        credit("the least of 17 digits", "s", 1, 0, 2001, Wire.told(8), Wire.subscriber("10000000000000000"));
    }

    private static void beginsTwice() {
        check.of("5012 there is a SESSION with this name, or there are 16.");
        String longest = "n".repeat(39);
        String[][] pairs = {{"s", "t"}, {"s", "ss"}, {"ss", "s"}, {longest + "a", longest + "b"}, {longest + "a", longest}};
        for (String[] pair : pairs) {
            begin(5000);
            credit("begins", pair[0], 1, 0, 2001, Wire.told(1000), WHO);
            refused("the same name", pair[0], 1, 9, 5012, WHO);
            begin(5000);
            feed(pair[0], 1, 0, WHO);
            Check.drain(node, 1);
            credit("another name", pair[1], 1, 0, 2001, Wire.told(1000), WHO);
        }
        for (int count = 15; count <= 16; count++) {
            begin(5000);
            for (int i = 0; i < count; i++) {
                feed("s" + i, 1, 0, WHO, Wire.wanted(1));
            }
            feed("last", 1, 0, WHO, Wire.wanted(1));
            check.due("behind " + count, node.sessions(), 16);
        }
        // A name is free again when its SESSION has ended.
        begin(5000);
        feed("s", 1, 5, WHO);
        feed("s", 3, 6);
        feed("s", 1, 0, WHO);
        check.due("begins anew", node.sessions(), 1);
        check.due("with its own count", node.session(0, 1), 0);
    }

    private static void beginsWithFree() {
        check.of("4012 FREE is 0. Else 2001: a GRANT.");
        long[] balances = {0, 1, 2};
        for (long balance : balances) {
            begin(balance);
            if (balance == 0) {
                refused("free 0", "s", 1, 0, 4012, WHO);
                refused("free 0, wanted 0", "t", 1, 0, 4012, WHO, Wire.wanted(0));
            } else {
                credit("free " + balance, "s", 1, 0, 2001, Wire.told(balance), WHO);
                refused("all is reserved", "t", 1, 0, 4012, WHO);
            }
            check.due("sessions", node.sessions(), balance == 0 ? 0 : 1);
        }
        begin(1000);
        feed("s", 1, 0, WHO, Wire.wanted(999));
        Check.drain(node, 1);
        credit("free 1", "t", 1, 0, 2001, Wire.told(1), WHO);
    }

    private static void goesOnWithout() {
        check.of("TYPE 2: 5002 there is no SESSION with this name.");
        String[] others = {"S", "ss", "t", "s\u0000"};
        for (String name : others) {
            begin(5000);
            feed("s", 1, 5, WHO);
            Check.drain(node, 1);
            refused("type 2 of " + name, name, 2, 6, 5002);
            refused("type 3 of " + name, name, 3, 6, 5002);
            check.due("it stays", node.session(0, 1), 5);
        }
        begin(5000);
        refused("none at all", "s", 2, 6, 5002);
    }

    private static void counts() {
        check.of("5012 COUNT is not greater than the last one.");
        long[] lasts = {0, 1, 2147483647L, 2147483648L, 4294967294L, 4294967295L};
        for (long last : lasts) {
            for (int type = 2; type <= 3; type++) {
                begin(5000);
                feed("s", 1, last, WHO);
                Check.drain(node, 1);
                refused("the same as " + last, "s", type, last, 5012, Wire.used(5));
                if (last > 0) {
                    refused("one less than " + last, "s", type, last - 1, 5012, Wire.used(5));
                }
                account("nothing is charged", 5000, 1000, 0);
                check.due("sessions", node.sessions(), 1);
                if (last < 4294967295L) {
                    feed("s", type, last + 1, Wire.used(5));
                    check.due("one more than " + last, node.balance(120, 2), 5);
                } else {
                    feed("s", type, 0, Wire.used(5));
                    check.due("it does not begin again at 0", node.balance(120, 2), 0);
                }
            }
        }
    }

    private static void goesOnWithFree() {
        check.of("Then what is USED is charged. 4012 FREE is 0 (then GRANT is 0). Else 2001: a GRANT.");
        // All of the account is the GRANT; what is not used of it is free again.
        long[] used = {998, 999, 1000, 1001};
        for (long one : used) {
            begin(1000);
            feed("s", 1, 0, WHO);
            Check.drain(node, 1);
            long left = Math.max(0, 1000 - one);
            if (left == 0) {
                refused("used " + one, "s", 2, 1, 4012, Wire.used(one));
            } else {
                credit("used " + one, "s", 2, 1, 2001, Wire.told(left), Wire.used(one));
            }
            check.due("the grant", node.granted(0), left);
            account("used " + one, left, left, 1000 - left);
            check.due("the session stays", node.sessions(), 1);
        }
        begin(1000);
        feed("s", 1, 0, WHO, Wire.wanted(1));
        feed("t", 1, 0, WHO, Wire.wanted(999));
        feed("s", 2, 1, Wire.used(1));
        check.due("the rest is another's", node.granted(0), 0);
        account("the rest is another's", 999, 999, 1);
        check.due("the other's stays", node.granted(1), 999);
    }

    private static void endsIt() {
        check.of("TYPE 3: 5002, 5012 likewise; what is USED is charged, the SESSION ends: 2001.");
        long[] used = {0, 1, 999, 1000, 1001, MOST};
        for (long one : used) {
            begin(5000);
            feed("s", 1, 0, WHO);
            Check.drain(node, 1);
            refused("used " + one, "s", 3, 1, 2001, Wire.used(one), Wire.wanted(5));
            long charged = Math.min(1000, one);
            account("used " + one, 5000 - charged, 0, charged);
            check.due("sessions", node.sessions(), 0);
            check.due("no grant", node.granted(0), -1);
        }
        // With nothing free it is 2001 all the same.
        begin(1000);
        feed("s", 1, 0, WHO);
        Check.drain(node, 1);
        refused("all used", "s", 3, 1, 2001, Wire.used(1000));
        account("all used", 0, 0, 1000);
    }

    private static void onceLooksAtNoSession() {
        check.of("TYPE 4 (no SESSION is made, or looked at): 5030 as in 1.");
        for (int act = 0; act <= 2; act++) {
            begin(5000);
            refused("5030", "s", 4, 5, 5030, action(act), Wire.subscriber("7"));
            begin(5000);
            feed("s", 1, 5, WHO);
            Check.drain(node, 1);
            credit("2001", "s", 4, 0, 2001, act == 2 ? Wire.number(422, 0) : NONE, action(act), WHO, Wire.wanted(1));
            check.due("sessions", node.sessions(), 1);
            check.due("its count", node.session(0, 1), 5);
            check.due("its grant", node.granted(0), 1000);
        }
        begin(5000);
        for (int i = 0; i < 16; i++) {
            feed("s" + i, 1, 0, WHO, Wire.wanted(1));
        }
        feed("x", 4, 0, action(0), WHO, Wire.wanted(1));
        check.due("with 16 sessions", node.balance(120, 2), 1);
    }

    private static void charges() {
        check.of("0 charges WANTED: 4012 if it is more than FREE");
        long[] wanted = {0, 1, 3999, 4000, 4001, 5000, MOST};
        for (long one : wanted) {
            begin(5000);
            feed("s", 1, 0, WHO);
            Check.drain(node, 1);
            boolean fits = one <= 4000;
            refused("wanted " + one, "t", 4, 0, fits ? 2001 : 4012, action(0), WHO, Wire.wanted(one));
            account("wanted " + one, fits ? 5000 - one : 5000, 1000, fits ? one : 0);
        }
        begin(0);
        refused("0 of 0", "t", 4, 0, 2001, action(0), WHO, Wire.wanted(0));
        refused("1 of 0", "t", 4, 0, 4012, action(0), WHO, Wire.wanted(1));
        begin(MOST);
        refused("all of 2^60", "t", 4, 0, 2001, action(0), WHO, Wire.wanted(MOST));
        account("all", 0, 0, MOST);
    }

    private static void givesBack() {
        check.of("1 gives WANTED back: 5012 if BALANCE would be above 2^60");
        long[] balances = {0, 1, 5000, MOST - 1, MOST};
        for (long balance : balances) {
            long[] wanted = {0, 1, MOST - balance - 1, MOST - balance, MOST - balance + 1, MOST};
            for (long one : wanted) {
                if (one >= 0 && one <= MOST) {
                    begin(balance);
                    boolean fits = one <= MOST - balance;
                    refused(one + " to " + balance, "t", 4, 0, fits ? 2001 : 5012, action(1), WHO, Wire.wanted(one));
                    account(one + " to " + balance, fits ? balance + one : balance, 0, fits ? -one : 0);
                }
            }
        }
    }

    private static void enough() {
        check.of("2 ENOUGH in the ANSWER: 0 if WANTED is not more than FREE, else 1. 2001.");
        long[] wanted = {0, 1, 3999, 4000, 4001, 5000, MOST};
        for (long one : wanted) {
            begin(5000);
            feed("s", 1, 0, WHO);
            Check.drain(node, 1);
            credit("wanted " + one, "t", 4, 0, 2001, Wire.number(422, one <= 4000 ? 0 : 1), action(2), WHO, Wire.wanted(one));
            account("nothing is done", 5000, 1000, 0);
        }
        begin(0);
        credit("0 of 0", "t", 4, 0, 2001, Wire.number(422, 0), action(2), WHO, Wire.wanted(0));
        credit("1 of 0", "t", 4, 0, 2001, Wire.number(422, 1), action(2), WHO, Wire.wanted(1));
    }

    private static void withoutWanted() {
        check.of("(Without WANTED, or UNITS in it: 0.)");
        byte[][] without = {NONE, Wire.group(437), Wire.group(437, Wire.number(448, 9)), Wire.used(9),
                Wire.group(437, Wire.group(446, Wire.units(9)))};
        for (byte[] one : without) {
            for (int act = 0; act <= 2; act++) {
                begin(0);
                credit("action " + act, "t", 4, 0, 2001, act == 2 ? Wire.number(422, 0) : NONE, action(act), WHO, one);
                account("nothing is done", 0, 0, 0);
            }
        }
    }

    private static void grants() {
        check.of("A GRANT is WANTED (1000 if it is not there, or has no UNITS), but no more than FREE");
        long[] wanted = {0, 1, 3999, 4000, 4001, MOST};
        for (long one : wanted) {
            begin(5000);
            feed("s", 1, 0, WHO);
            Check.drain(node, 1);
            long grant = Math.min(4000, one);
            credit("wanted " + one, "t", 1, 0, 2001, Wire.told(grant), WHO, Wire.wanted(one));
            check.due("granted", node.granted(1), grant);
            account("wanted " + one, 5000, 1000 + grant, 0);
        }
        begin(MOST);
        credit("2^60", "s", 1, 0, 2001, Wire.told(MOST), WHO, Wire.wanted(MOST));
        account("all", MOST, MOST, 0);
        begin(MOST);
        credit("2^60 less 1", "s", 1, 0, 2001, Wire.told(MOST - 1), WHO, Wire.wanted(MOST - 1));
    }

    private static void usualGrants() {
        check.of("(1000 if it is not there, or has no UNITS)");
        byte[][] without = {NONE, Wire.group(437), Wire.group(437, Wire.number(448, 9)), Wire.used(9),
                Wire.join(Wire.group(437), Wire.units(9))};
        long[] balances = {1, 999, 1000, 1001, 5000};
        for (byte[] one : without) {
            for (long balance : balances) {
                begin(balance);
                long grant = Math.min(1000, balance);
                credit("of " + balance, "s", 1, 0, 2001, Wire.told(grant), WHO, one);
                check.due("granted", node.granted(0), grant);
            }
            begin(5000);
            feed("s", 1, 0, WHO, Wire.wanted(1));
            Check.drain(node, 1);
            credit("with type 2", "s", 2, 1, 2001, Wire.told(1000), one);
        }
    }

    private static void told() {
        check.of("it is RESERVED, and told: GRANTED with UNITS in it, and TIME 600");
        begin(5000);
        credit("type 1", "s", 1, 0, 2001, Wire.join(Wire.group(431, Wire.units(7)), Wire.number(448, 600)), WHO,
                Wire.wanted(7));
        credit("type 2", "s", 2, 1, 2001, Wire.join(Wire.group(431, Wire.units(0)), Wire.number(448, 600)), Wire.wanted(0));
        begin(5000);
        feed("s", 1, 0, WHO);
        Check.drain(node, 1);
        refused("not with type 3", "s", 3, 2, 2001);
        begin(0);
        refused("not with 4012", "s", 1, 0, 4012, WHO, Wire.wanted(7));
    }

    private static void endsByItsTime() {
        check.of("the SESSION ends 600 seconds later, if no CREDIT with 2001 for it comes before");
        int[] times = {0, 1, 29};
        for (int time : times) {
            begin(5000);
            node.tick(time);
            feed("s", 1, 0, WHO);
            check.due("told", node.session(0, 3), time + 600);
            node.gone(1);
            node.tick(time + 599);
            check.due("599", node.sessions(), 1);
            account("599", 5000, 1000, 0);
            node.tick(time + 600);
            check.due("600", node.sessions(), 0);
            account("600", 5000, 0, 0);
        }
        begin(5000);
        feed("s", 1, 0, WHO);
        node.gone(1);
        node.tick(599);
        Check.peer(node, "b", false);
        Scene.come(node, "b");
        feed("s", 2, 1);
        check.due("a credit at 599", node.session(0, 3), 1199);
        node.gone(1);
        node.tick(1198);
        check.due("1198", node.sessions(), 1);
        node.tick(1199);
        check.due("1199", node.sessions(), 0);
    }

    private static void endsLater() {
        check.of("with 4012 it ends 600 seconds later, too");
        begin(1000);
        feed("s", 1, 5, WHO);
        node.tick(9);
        feed("s", 2, 6, Wire.used(1000));
        check.due("4012", node.granted(0), 0);
        check.due("later", node.session(0, 3), 609);
        node.tick(20);
        feed("s", 2, 6);
        check.due("not with 5012", node.session(0, 3), 609);
        feed("s", 2, 7, Wire.used(-1));
        check.due("not with 5004", node.session(0, 3), 609);
        feed("s", 1, 7, WHO);
        check.due("not with type 1", node.session(0, 3), 609);
        feed("s", 4, 7, action(2), WHO);
        check.due("not with type 4", node.session(0, 3), 609);
        feed("s", 2, 7);
        check.due("with 4012 again", node.session(0, 3), 620);
    }

    private static void charged() {
        check.of("Charged is USED (0 if not there), but no more than the GRANT: BALANCE is less by it;"
                + " the GRANT is RESERVED no more.");
        long[] used = {0, 1, 299, 300, 301, MOST};
        for (long one : used) {
            begin(5000);
            feed("s", 1, 0, WHO, Wire.wanted(300));
            feed("s", 2, 1, Wire.used(one), Wire.wanted(7));
            long charged = Math.min(300, one);
            account("used " + one, 5000 - charged, 7, charged);
        }
        byte[][] without = {NONE, Wire.group(446), Wire.group(446, Wire.number(448, 9)), Wire.group(446, Wire.wanted(9))};
        for (byte[] one : without) {
            begin(5000);
            feed("s", 1, 0, WHO, Wire.wanted(300));
            feed("s", 2, 1, one, Wire.wanted(7));
            account("not there", 5000, 7, 0);
        }
        begin(5000);
        feed("s", 1, 0, WHO, Wire.used(100));
        account("not with type 1", 5000, 1000, 0);
        begin(5000);
        feed("s", 1, 0, WHO, Wire.wanted(0));
        feed("s", 2, 1, Wire.used(1), Wire.wanted(0));
        account("a grant of 0", 5000, 0, 0);
    }

    private static void nothingCharged() {
        check.of("A SESSION that ends by its time has its GRANT RESERVED no more, and nothing charged.");
        begin(1000);
        feed("s", 1, 0, WHO);
        account("begun", 1000, 1000, 0);
        node.tick(599);
        account("599", 1000, 1000, 0);
        node.tick(600);
        account("600", 1000, 0, 0);
        check.due("what is asked of it", node.session(0, 0), -1);
    }

    private static void theSessions() {
        check.of("With each CREDIT of TYPE 2 that gets 2001 or 4012 COUNT, HOST, REALM and the PEER by which it came"
                + " are the SESSION's");
        int[] results = {2001, 4012, 5012, 5004};
        for (int result : results) {
            QuotaPeers x = Scene.openPeers(2);
            x.account(120, 1000);
            Check.feed(x, 1, Wire.credit("s", 50, 1, 5, WHO));
            long count = result == 5012 ? 5 : 6;
            byte[] used = result == 4012 ? Wire.used(1000) : result == 5004 ? Wire.used(-1) : NONE;
            Check.feed(x, 2, Wire.request(Wire.CREDIT, 7, 8, Wire.text(263, "s"), Wire.origin("host", "realm"),
                    Wire.number(416, 2), Wire.number(415, count), used));
            boolean its = result == 2001 || result == 4012;
            check.due("count with " + result, x.session(0, 1), its ? 6 : 5);
            check.due("peer with " + result, x.session(0, 2), its ? 2 : 1);
            Check.drain(x, its ? 2 : 1);
            x.ask(0);
            check.due("host and realm with " + result, Check.take(x, its ? 2 : 1), Wire.message(1, 192, Wire.ASK, 4, 1, 1,
                    Wire.text(263, "s"), Wire.origin("m.home", "home"), Wire.text(283, its ? "realm" : "e"),
                    Wire.text(293, its ? "host" : "c.d"), Wire.number(258, 4), Wire.number(285, 0)));
        }
    }

    private static void clockSeconds() {
        check.of("THE CLOCK is at 0. tick() goes from second to second");
        QuotaPeers x = new QuotaPeers();
        check.due("at first", x.clock(), 0);
        check.due("no second", x.tick(0), 0);
        check.due("one", x.tick(1), 0);
        check.due("the clock", x.clock(), 1);
        // All that is due in between is done at its own second, whether it is told at once or each second.
        QuotaPeers once = timed();
        QuotaPeers each = timed();
        int done = 0;
        for (int t = 1; t <= 200; t++) {
            done += each.tick(t);
        }
        check.due("how many", once.tick(200), done);
        for (int p = 1; p <= 3; p++) {
            for (int what = 0; what <= 7; what++) {
                check.due("state of " + p + " what " + what, once.state(p, what), each.state(p, what));
            }
        }
    }

    private static QuotaPeers timed() {
        QuotaPeers x = new QuotaPeers();
        Check.peer(x, "a", true);
        Check.peer(x, "b", false);
        Check.peer(x, "z", true);
        Scene.come(x, "b");
        x.start(3);
        return x;
    }

    private static void clockOrder() {
        check.of("at each one, PEERS in the order of their numbers: first the 10 seconds, then the TIMER, if they are due;"
                + " then SESSIONS that end, the one that was made first at first");
        // The ten seconds come before the TIMER: it is started at the same second.
        QuotaPeers x = new QuotaPeers();
        Check.peer(x, "a", true);
        x.tick(20);
        x.start(1);
        check.due("ten seconds and the timer", x.tick(30), 2);
        check.due("started by the timer", x.state(1, 0), 1);
        check.due("its connection", x.state(1, 1), 1);
        // The order of PEERS gives the least numbers of CONNECTIONS, and HOPS.
        QuotaPeers y = new QuotaPeers();
        for (int p = 1; p <= 4; p++) {
            Check.peer(y, Scene.name(p), true);
        }
        check.due("four timers", y.tick(30), 4);
        for (int p = 1; p <= 4; p++) {
            check.due("connection of " + p, y.state(p, 1), p);
        }
        QuotaPeers z = Scene.openPeers(4);
        z.tick(30);
        for (int p = 1; p <= 4; p++) {
            Check.feed(z, p, Wire.reply(Wire.WATCH, p, 2001, Scene.name(p)));
            check.due("hop of " + p, z.state(p, 4), 0);
        }
        // The CONNECTION that the first PEER's ten seconds close is the one that the second one's TIMER is given.
        QuotaPeers w = new QuotaPeers();
        Check.peer(w, "a", false);
        Check.peer(w, "b", true);
        w.tick(20);
        w.start(1);
        w.accept();
        check.due("both timers, and ten seconds", w.tick(30), 3);
        check.due("the first is over", w.state(1, 0), 0);
        check.due("its number is given", w.state(2, 1), 1);
        // SESSIONS that end at one second are all counted, and those that stay keep their order.
        begin(5000);
        for (int i = 1; i <= 3; i++) {
            feed("s".repeat(i), 1, 0, WHO, Wire.wanted(i));
        }
        node.tick(5);
        feed("ss", 2, 1, Wire.wanted(2));
        feed("ssss", 1, 0, WHO, Wire.wanted(4));
        node.gone(1);
        node.tick(599);
        check.due("two of them", node.tick(600), 2);
        check.due("the second is the first", node.session(0, 0), 2);
        check.due("the fourth is the second", node.session(1, 0), 4);
        check.due("the others and a timer", node.tick(605), 3);
        check.due("none", node.sessions(), 0);
    }
}
