import java.util.Arrays;

/**
 * Terms, from NAMES to ANSWERS: each sentence that names a boundary has a test of its own, at it and on both sides.
 * Each message is asked of a new node, so that none is used for more calls than are promised.
 */
public final class EdgesOfMessagesTest {
    private static final Check check = new Check();
    private static final byte[] ORIGIN = Wire.origin("a.b", "r");
    private static final byte[] NONE = new byte[0];
    private static final int[] COMMANDS = {Wire.OPENING, Wire.WATCH, Wire.ENDING, Wire.CREDIT};
    private static final int[] TEXTS = {263, 264, 296, 283, 293, 269, 444};
    private static final int[] NUMBERS = {268, 258, 266, 278, 273, 285, 416, 415, 436, 450, 448, 422};
    private static final int[] GROUPS = {443, 437, 431, 446, 279};

    public static void main(String[] args) {
        namesHaveOctets();
        namesAreLong();
        laterNames();
        firstHost();
        highestFirst();
        headFlags();
        longestMessages();
        longestAnswers();
        longestAsks();
        attributeLengths();
        makers();
        padding();
        texts();
        numbers();
        numbersWithoutSign();
        units();
        address();
        groups();
        knownCodes();
        justOnce();
        anyNumberOfTimes();
        firstOneCounts();
        versions();
        commands();
        applications();
        flags();
        orderOfHeads();
        fewOctetsLeft();
        lengthsBelow();
        lengthsBeyond();
        paddingThatLacks();
        attributeFlags();
        notKnown();
        passedOver();
        dataBehindMust();
        fourthGroup();
        oneBehindTheOther();
        missing();
        twice();
        wrongAnswers();
        answersHaveThree();
        answersBelong();
        passedAsItWas();
        fault();
        asTheyWere();
        sessionInAnswers();
        whatAnswersTell();
        failed();
        check.end("EdgesOfMessagesTest");
    }

    /** What a node that is OPEN answers. */
    private static byte[] answerTo(byte[] message) {
        QuotaPeers x = Scene.open();
        check.due("messages done", Check.feed(x, 1, message), 1);
        return Check.take(x, 1);
    }

    private static void answered(String what, byte[] message, byte[] answer) {
        check.due(what, answerTo(message), answer);
    }

    /** A WATCH with more ATTRIBUTES: the RESULT, and the CODE that FAILED tells. */
    private static void watch(String what, byte[] more, int result, long code) {
        int flags = result >= 3000 && result <= 3999 ? Wire.FAULT : 0;
        byte[] told = result == 2001 ? Wire.number(278, 1) : Wire.failed(code);
        answered(what, Wire.request(Wire.WATCH, 5, 6, ORIGIN, more), Wire.answer(flags, Wire.WATCH, 5, 6, result, told));
    }

    private static void right(String what, byte[]... more) {
        watch(what, Wire.join(more), 2001, 0);
    }

    /** An ANSWER with RESULT, HOST and REALM alone. */
    private static byte[] plain(int flags, int command, int application, int result) {
        return Wire.message(1, flags, command, application, 5, 6, Wire.number(268, result), Wire.origin("m.home", "home"));
    }

    private static byte[] unknown(int flags, int size) {
        return Wire.attribute(9999, flags, new byte[size]);
    }

    private static void namesHaveOctets() {
        check.of("NAMES are 1 to 40 octets of a .. z, 0 .. 9, '.', '-'");
        String of = "abcdefghijklmnopqrstuvwxyz0123456789.-";
        for (int octet = 1; octet <= 255; octet++) {
            for (int shift = 0; shift <= 24; shift += 8) {
                QuotaPeers x = new QuotaPeers();
                check.due("octet " + octet + " at " + shift, x.sign(octet << shift), of.indexOf(octet) >= 0 ? 1 : -2);
            }
        }
    }

    private static void namesAreLong() {
        check.of("NAMES are 1 to 40 octets");
        int[] lengths = {1, 2, 39, 40};
        for (int length : lengths) {
            QuotaPeers x = new QuotaPeers();
            check.due("signed", Check.sign(x, "n".repeat(length)), length);
            check.due("own", x.own(), length);
            check.due("signed", Check.sign(x, "p".repeat(length)), length);
            check.due("peer", x.peer(false), 1);
        }
        QuotaPeers x = new QuotaPeers();
        check.due("own of 0", x.own(), -2);
        check.due("peer of 0", x.peer(false), -2);
        check.due("41", Check.sign(x, "n".repeat(41)), -4);
        check.due("40 stay", x.own(), 40);
    }

    private static void laterNames() {
        check.of("of two the later one is that with the greater octet where they first differ, or the longer one");
        String longest = "y".repeat(38);
        String[][] pairs = {{"b", "a"}, {"aa", "a"}, {"b", "az"}, {"a.", "a-"}, {"a0", "a."}, {"aa", "a9"}, {"ba", "abz"},
                {longest + "zz", longest + "z"}, {longest + "zb", longest + "za"}, {longest + "b", longest + "az"}};
        for (String[] pair : pairs) {
            check.due(pair[0] + " is later", choice(pair[0], pair[1]), 5);
            check.due(pair[1] + " is not", choice(pair[1], pair[0]), 4);
        }
    }

    /** The STATE after the CHOICE. */
    private static int choice(String node, String peer) {
        QuotaPeers x = new QuotaPeers();
        Check.sign(x, node);
        x.own();
        Check.peer(x, peer, false);
        x.start(1);
        x.connected(1, true);
        Scene.come(x, peer);
        return x.state(1, 0);
    }

    private static void firstHost() {
        check.of("The NODE has a HOST (a NAME, at first \"m.home\") and the REALM \"home\".");
        check.due("the same name", Check.peer(new QuotaPeers(), "m.home", false), -3);
        check.due("one octet fewer", Check.peer(new QuotaPeers(), "m.hom", false), 1);
        check.due("one octet more", Check.peer(new QuotaPeers(), "m.home.", false), 1);
        QuotaPeers x = Scene.withPeer("a.b");
        x.start(1);
        x.connected(1, true);
        check.due("in an opening", Check.take(x, 1), Wire.request(Wire.OPENING, 1, 1, Wire.origin("m.home", "home"),
                Wire.introduction()));
    }

    private static void highestFirst() {
        check.of("All numbers in messages have their highest octet first.");
        QuotaPeers x = Scene.withAccount(1L << 60);
        Check.feed(x, 1, Wire.request(Wire.CREDIT, 0x01020304, 0xFFFEFDFCL, Wire.text(263, "s"), ORIGIN,
                Wire.attribute(416, 64, Wire.octets(0, 0, 0, 1)), Wire.attribute(415, 64, Wire.octets(1, 2, 3, 4)),
                Wire.subscriber("120"), Wire.group(437, Wire.attribute(421, 64, Wire.octets(1, 2, 3, 4, 5, 6, 7, 8)))));
        check.due("a number", x.session(0, 1), 0x01020304);
        check.due("units", x.granted(0), 0x0102030405060708L);
        check.due("in the answer", Check.take(x, 1), Wire.message(1, 0, Wire.CREDIT, 4, 0x01020304, 0xFFFEFDFCL,
                Wire.text(263, "s"), Wire.number(268, 2001), Wire.origin("m.home", "home"), Wire.number(258, 4),
                Wire.number(416, 1), Wire.number(415, 0x01020304), Wire.told(0x0102030405060708L)));
    }

    private static void headFlags() {
        check.of("FLAGS, 1: 128 REQUEST (without it is an ANSWER), 64 PASSED, 32 FAULT, 16 AGAIN");
        byte[] done = Wire.number(278, 1);
        answered("request", Wire.message(1, 128, Wire.WATCH, 0, 5, 6, ORIGIN), Wire.answer(0, Wire.WATCH, 5, 6, 2001, done));
        answered("passed", Wire.message(1, 192, Wire.WATCH, 0, 5, 6, ORIGIN), Wire.answer(64, Wire.WATCH, 5, 6, 2001, done));
        answered("again", Wire.message(1, 144, Wire.WATCH, 0, 5, 6, ORIGIN), Wire.answer(0, Wire.WATCH, 5, 6, 2001, done));
        answered("both", Wire.message(1, 208, Wire.WATCH, 0, 5, 6, ORIGIN), Wire.answer(64, Wire.WATCH, 5, 6, 2001, done));
        answered("an answer is not answered", Wire.message(1, 0, Wire.WATCH, 0, 5, 6, ORIGIN), NONE);
    }

    /** A CREDIT of TYPE 1 with just 600 octets, the last of which are those of its last part. */
    private static byte[] longest(byte[]... parts) {
        byte[] all = Wire.join(parts);
        byte[] filled = Wire.request(Wire.CREDIT, 5, 6, Wire.attribute(9999, 0, new byte[600 - 28 - all.length]), all);
        check.due("octets", filled.length, 600);
        return filled;
    }

    private static void longestMessages() {
        check.of("its LENGTH, 3 octets, of all of it");
        byte[] session = Wire.text(263, "s");
        byte[] host = Wire.text(264, "c.d");
        byte[] realm = Wire.text(296, "e");
        byte[] type = Wire.number(416, 1);
        byte[] count = Wire.number(415, 0x7A7B7C7D);
        byte[] who = Wire.subscriber("120");
        QuotaPeers x = Scene.withAccount(5000);
        Check.feed(x, 1, longest(who, session, host, realm, type, count));
        check.due("a number in the last octets", x.session(0, 1), 0x7A7B7C7D);
        x = Scene.withAccount(5000);
        Check.feed(x, 1, longest(session, host, realm, type, count, who));
        check.due("a group in the last octets", x.granted(0), 1000);
        x = Scene.withAccount(5000);
        Check.feed(x, 1, longest(session, host, realm, type, count, who, Wire.wanted(0x0807)));
        check.due("units in the last octets", x.granted(0), 0x0807);
        x = Scene.withAccount(5000);
        Check.feed(x, 1, longest(who, host, realm, type, count, Wire.text(263, "abcd")));
        Check.drain(x, 1);
        x.ask(0);
        check.due("a text in the last octets", Check.take(x, 1), Wire.message(1, 192, Wire.ASK, 4, 1, 1,
                Wire.text(263, "abcd"), Wire.origin("m.home", "home"), Wire.text(283, "e"), Wire.text(293, "c.d"),
                Wire.number(258, 4), Wire.number(285, 0)));
        answered("a head in the last octets", longest(session, host, realm, type, count, unknown(64, 0)),
                wrongAnswer(Wire.CREDIT, true, 5001, 9999));
        answered("fewer than 8 in the last octets", longest(session, host, realm, type, count, new byte[4]),
                wrongAnswer(Wire.CREDIT, true, 5014, 0));
        answered("one that goes beyond them", longest(session, host, realm, type, count,
                Wire.attribute(278, 64, 13, new byte[4], 0)), wrongAnswer(Wire.CREDIT, true, 5014, 278));
        answered("the shortest", Wire.request(Wire.CREDIT, 5, 6), wrongAnswer(Wire.CREDIT, false, 5005, 263));
    }

    private static void longestAnswers() {
        check.of("then ATTRIBUTES with MUST, PADDING of 0, in this order");
        int[] lengths = {1, 2, 3, 4, 37, 38, 39, 40};
        for (int length : lengths) {
            String name = "n".repeat(length);
            QuotaPeers x = new QuotaPeers();
            Check.sign(x, name);
            x.own();
            Check.peer(x, "a", false);
            Check.drain(x, Scene.come(x, "a"));
            x.account(120, 1L << 60);
            Check.feed(x, 1, Wire.request(Wire.CREDIT, 5, 6, Wire.text(263, name), Wire.origin(name, name),
                    Wire.number(416, 1), Wire.number(415, 4294967295L), Wire.subscriber("120"), Wire.wanted(1L << 60)));
            check.due("an answer to a credit", Check.take(x, 1), Wire.message(1, 0, Wire.CREDIT, 4, 5, 6,
                    Wire.text(263, name), Wire.number(268, 2001), Wire.origin(name, "home"), Wire.number(258, 4),
                    Wire.number(416, 1), Wire.number(415, 4294967295L), Wire.told(1L << 60)));
        }
    }

    private static void longestAsks() {
        check.of("ASKS: REQUEST, PASSED (and AGAIN when sent again), COMMAND 258, APPLICATION 4:"
                + " SESSION, HOST, REALM, TO-REALM, TO-HOST, AUTH 4, KIND 0.");
        int[] lengths = {1, 2, 3, 4, 37, 38, 39, 40};
        for (int length : lengths) {
            String name = "n".repeat(length);
            QuotaPeers x = new QuotaPeers();
            Check.sign(x, name);
            x.own();
            Check.peer(x, "a", false);
            Check.peer(x, "b", false);
            Check.drain(x, Scene.come(x, "a"));
            Scene.come(x, "b");
            x.account(120, 5000);
            Check.feed(x, 2, Wire.request(Wire.CREDIT, 5, 6, Wire.text(263, name), Wire.origin(name, name),
                    Wire.number(416, 1), Wire.number(415, 0), Wire.subscriber("120")));
            check.due("asked", x.ask(0), 0);
            check.due("by the second", x.asked(0, 1), 2);
            x.gone(2);
            check.due("sent again", Check.take(x, 1), Wire.message(1, 208, Wire.ASK, 4, 2, 1, Wire.text(263, name),
                    Wire.origin(name, "home"), Wire.text(283, name), Wire.text(293, name), Wire.number(258, 4),
                    Wire.number(285, 0)));
        }
    }

    private static void attributeLengths() {
        check.of("LENGTH, 3: of these 8 octets and DATA, not of PADDING");
        for (int size = 1; size <= 9; size++) {
            String name = "s".repeat(size);
            QuotaPeers x = Scene.withAccount(5000);
            Check.feed(x, 1, Wire.credit(name, 50, 1, 0, Wire.subscriber("120")));
            check.due("octets", x.session(0, 0), size);
            check.due("told", Check.take(x, 1), Wire.creditAnswer(name, 50, 2001, 1, 0, Wire.told(1000)));
        }
        // Two octets of LENGTH are not enough to tell that this one goes beyond the end.
        watch("the highest octet", Wire.attribute(278, 64, 0x01000C, new byte[4], 0), 5014, 278);
    }

    private static void makers() {
        check.of("with the flag MAKER 4 octets more before DATA, counted in LENGTH");
        watch("none of them", Wire.attribute(9999, 128, 8, NONE, 0), 5014, 9999);
        watch("three of them", Wire.attribute(9999, 128, 11, new byte[4], 0), 5014, 9999);
        right("four of them", Wire.attribute(9999, 128, 12, new byte[4], 0));
        right("and one of data", Wire.attribute(9999, 128, 13, new byte[5], 0), Wire.number(258, 1));
        watch("what is behind", Wire.join(Wire.attribute(9999, 128, 13, new byte[5], 0), Wire.number(9998, 1)), 5001, 9998);
    }

    private static void padding() {
        check.of("PADDING, octets of any value up to the next multiple of four");
        for (int size = 1; size <= 8; size++) {
            byte[] text = Wire.attribute(444, 64, 8 + size, new byte[size], 255);
            right("padding of " + (-size & 3), text, Wire.number(258, 1));
            watch("behind padding of " + (-size & 3), Wire.join(text, unknown(64, 4)), 5001, 9999);
        }
    }

    /** A DATA size of one that is KNOWN: HOST and REALM are there already, so they are there twice when they are right. */
    private static void size(int code, int size, boolean fits) {
        boolean again = code == 264 || code == 296;
        byte[] data = new byte[size];
        Arrays.fill(data, (byte) 255);
        watch(code + " of " + size, Wire.attribute(code, 64, data), fits ? again ? 5009 : 2001 : 5014, code);
    }

    private static void texts() {
        check.of("texts (1 to 40 octets, any)");
        for (int code : TEXTS) {
            size(code, 0, false);
            size(code, 1, true);
            size(code, 2, true);
            size(code, 39, true);
            size(code, 40, true);
            size(code, 41, false);
            size(code, 256 + 8, false);
        }
        for (int octet = 0; octet <= 255; octet += 51) {
            QuotaPeers x = Scene.withAccount(5000);
            String name = String.valueOf((char) octet);
            Check.feed(x, 1, Wire.credit(name, 50, 1, 0, Wire.subscriber("120")));
            check.due("octet " + octet, Check.take(x, 1), Wire.creditAnswer(name, 50, 2001, 1, 0, Wire.told(1000)));
        }
    }

    private static void numbers() {
        check.of("numbers (4 octets, without sign)");
        for (int code : NUMBERS) {
            size(code, 0, false);
            size(code, 3, false);
            size(code, 4, true);
            size(code, 5, false);
            size(code, 8, false);
        }
    }

    private static void numbersWithoutSign() {
        check.of("numbers (4 octets, without sign)");
        long[] counts = {0, 1, 2147483647L, 2147483648L, 4294967294L, 4294967295L};
        for (int i = 1; i < counts.length; i++) {
            QuotaPeers x = Scene.withAccount(5000);
            Check.feed(x, 1, Wire.credit("s", 50, 1, counts[i - 1], Wire.subscriber("120")));
            Check.feed(x, 1, Wire.credit("s", 51, 2, counts[i]));
            check.due("greater than before: " + counts[i], x.session(0, 1), (int) counts[i]);
            Check.feed(x, 1, Wire.credit("s", 52, 2, counts[i - 1]));
            check.due("not greater: " + counts[i - 1], x.session(0, 1), (int) counts[i]);
        }
    }

    private static void units() {
        check.of("421 UNITS (8 octets, with sign)");
        size(421, 0, false);
        size(421, 4, false);
        size(421, 7, false);
        size(421, 8, true);
        size(421, 9, false);
        size(421, 12, false);
        answered("below 0", Wire.credit("s", 6, 1, 0, Wire.wanted(-1)), Wire.creditAnswer("s", 6, 5004, 1, 0));
        answered("0", Wire.credit("s", 6, 1, 0, Wire.wanted(0)), Wire.creditAnswer("s", 6, 5030, 1, 0));
    }

    private static void address() {
        check.of("257 ADDRESS (6 octets)");
        size(257, 0, false);
        size(257, 4, false);
        size(257, 5, false);
        size(257, 6, true);
        size(257, 7, false);
        size(257, 8, false);
    }

    private static void groups() {
        check.of("groups, whose DATA are ATTRIBUTES (none, too)");
        for (int code : GROUPS) {
            right("none", Wire.group(code));
            right("one", Wire.group(code, Wire.number(278, 1)));
            right("two", Wire.group(code, Wire.number(278, 1), Wire.text(444, "x")));
            watch("an octet is none", Wire.group(code, new byte[1]), 5014, 0);
            watch("one that is wrong", Wire.group(code, Wire.attribute(278, 64, new byte[3])), 5014, 278);
        }
    }

    private static void knownCodes() {
        check.of("KNOWN are the ATTRIBUTES without the flag MAKER and with these CODES");
        int[][] known = {TEXTS, NUMBERS, {421, 257}, GROUPS};
        boolean[] is = new boolean[600];
        for (int[] codes : known) {
            for (int code : codes) {
                is[code] = true;
                watch(code + " with maker and must", Wire.attribute(code, 192, new byte[4]), 5001, code);
                right(code + " with maker", Wire.attribute(code, 128, new byte[4]));
            }
        }
        for (int code = 250; code <= 460; code++) {
            if (!is[code]) {
                watch(code + " is not known", Wire.attribute(code, 64, new byte[4]), 5001, code);
            }
        }
        watch("0", Wire.attribute(0, 64, new byte[4]), 5001, 0);
        watch("the highest octets count", Wire.attribute(278 | 1 << 16, 64, new byte[4]), 5001, 278 | 1 << 16);
        watch("4294967295", Wire.attribute(4294967295L, 64, new byte[4]), 5001, 4294967295L);
    }

    private static byte[][] parts(int command) {
        byte[] host = Wire.text(264, "a.b");
        byte[] realm = Wire.text(296, "r");
        switch (command) {
            case Wire.OPENING:
                return new byte[][] {host, realm, Wire.number(258, 4)};
            case Wire.WATCH:
                return new byte[][] {host, realm};
            case Wire.ENDING:
                return new byte[][] {host, realm, Wire.number(273, 0)};
            default:
                return new byte[][] {Wire.text(263, "s"), host, realm, Wire.number(416, 9), Wire.number(415, 7)};
        }
    }

    private static int code(byte[] attribute) {
        return (attribute[2] & 255) << 8 | attribute[3] & 255;
    }

    /** The ANSWER to one that has just what it must have. */
    private static byte[] rightAnswer(int command) {
        switch (command) {
            case Wire.OPENING:
                return Wire.answer(0, command, 5, 6, 5012);
            case Wire.WATCH:
                return Wire.answer(0, command, 5, 6, 2001, Wire.number(278, 1));
            case Wire.ENDING:
                return Wire.answer(0, command, 5, 6, 2001);
            default:
                return Wire.message(1, 0, command, 4, 5, 6, Wire.text(263, "s"), Wire.number(268, 5004),
                        Wire.origin("m.home", "home"), Wire.number(258, 4), Wire.number(416, 9), Wire.number(415, 7));
        }
    }

    private static byte[] wrongAnswer(int command, boolean session, int result, long code) {
        byte[] name = session && command == Wire.CREDIT ? Wire.text(263, "s") : NONE;
        return Wire.message(1, 0, command, command == Wire.CREDIT ? 4 : 0, 5, 6, name, Wire.number(268, result),
                Wire.origin("m.home", "home"), Wire.failed(code));
    }

    private static void justOnce() {
        check.of("what each must have just once, in this order");
        for (int command : COMMANDS) {
            byte[][] parts = parts(command);
            answered("once", Wire.request(command, 5, 6, parts), rightAnswer(command));
            for (int i = 0; i < parts.length; i++) {
                byte[] one = parts[i];
                int code = code(one);
                parts[i] = NONE;
                answered("not " + code, Wire.request(command, 5, 6, parts), wrongAnswer(command, i > 0, 5005, code));
                parts[i] = Wire.join(one, one);
                byte[] due = code == 258 ? rightAnswer(command) : wrongAnswer(command, true, 5009, code);
                answered("twice " + code, Wire.request(command, 5, 6, parts), due);
                parts[i] = Wire.join(one, one, one);
                answered("thrice " + code, Wire.request(command, 5, 6, parts), due);
                parts[i] = one;
            }
        }
        // Their order in the message is free.
        for (int command : COMMANDS) {
            byte[][] parts = parts(command);
            byte[][] back = new byte[parts.length][];
            for (int i = 0; i < parts.length; i++) {
                back[i] = parts[parts.length - 1 - i];
            }
            answered("the other way round", Wire.request(command, 5, 6, back), rightAnswer(command));
        }
    }

    private static void anyNumberOfTimes() {
        check.of("What else is KNOWN may be there, any number of times");
        for (int command : COMMANDS) {
            byte[] all = Wire.join(parts(command));
            byte[] more = Wire.join(Wire.number(278, 1), Wire.text(444, "x"), Wire.group(443), Wire.units(1),
                    Wire.attribute(257, 64, new byte[6]));
            answered("once more", Wire.request(command, 5, 6, all, more), rightAnswer(command));
            answered("before", Wire.request(command, 5, 6, more, all), rightAnswer(command));
            answered("four times", Wire.request(command, 5, 6, more, more, all, more, more), rightAnswer(command));
        }
    }

    private static void firstOneCounts() {
        check.of("where one is asked for the first one counts");
        QuotaPeers x = Scene.withAccount(5000);
        Check.feed(x, 1, Wire.credit("s", 6, 4, 0, Wire.number(436, 0), Wire.number(436, 1), Wire.subscriber("120"),
                Wire.subscriber("7"), Wire.wanted(30), Wire.wanted(40)));
        check.due("the first action, subscriber and wanted", x.balance(120, 2), 30);
        Check.feed(x, 1, Wire.credit("s", 7, 4, 0, Wire.number(436, 0), Wire.subscriber("120"), Wire.group(437),
                Wire.wanted(40)));
        check.due("the first wanted has no units", x.balance(120, 2), 30);
        Check.feed(x, 1, Wire.credit("s", 8, 4, 0, Wire.number(436, 0), Wire.subscriber("120"),
                Wire.group(437, Wire.units(5), Wire.units(6))));
        check.due("the first units", x.balance(120, 2), 35);
        Check.feed(x, 1, Wire.credit("s", 9, 4, 0, Wire.number(436, 0), Wire.group(443), Wire.subscriber("120"),
                Wire.wanted(1)));
        check.due("the first subscriber has no who", x.balance(120, 2), 35);
        QuotaPeers y = Scene.in(2, "a.b");
        Check.feed(y, 1, Wire.message(1, 0, Wire.OPENING, 0, 1, 1, Wire.number(268, 2002), Wire.number(268, 2001), ORIGIN));
        check.due("the second result is right", y.state(1, 0), 0);
    }

    private static void versions() {
        check.of("5011 VERSION is not 1.");
        answered("0", Wire.message(0, 128, Wire.WATCH, 0, 5, 6, ORIGIN), plain(0, 280, 0, 5011));
        answered("1", Wire.message(1, 128, Wire.WATCH, 0, 5, 6, ORIGIN), rightAnswer(Wire.WATCH));
        answered("2", Wire.message(2, 128, Wire.WATCH, 0, 5, 6, ORIGIN), plain(0, 280, 0, 5011));
        answered("129", Wire.message(129, 128, Wire.WATCH, 0, 5, 6, ORIGIN), plain(0, 280, 0, 5011));
        answered("255", Wire.message(255, 128, Wire.WATCH, 0, 5, 6, ORIGIN), plain(0, 280, 0, 5011));
    }

    private static void commands() {
        check.of("3001 COMMAND is none of these four.");
        int[] others = {0, 1, 255, 256, 258, 271, 273, 274, 279, 281, 283, 257 | 1 << 16, 280 | 1 << 23, 0xFFFFFF};
        for (int command : others) {
            answered("command " + command, Wire.message(1, 128, command, 0, 5, 6, ORIGIN), plain(32, command, 0, 3001));
        }
        for (int command : COMMANDS) {
            answered("command " + command, Wire.request(command, 5, 6, parts(command)), rightAnswer(command));
        }
    }

    private static void applications() {
        check.of("3007 APPLICATION is not the COMMAND's.");
        int[] applications = {-1, 0, 1, 3, 4, 5, 1 << 8, 4 | 1 << 24};
        for (int command : COMMANDS) {
            for (int application : applications) {
                boolean its = application == (command == Wire.CREDIT ? 4 : 0);
                byte[] due = its ? rightAnswer(command) : plain(32, command, application, 3007);
                answered(command + " with " + application,
                        Wire.message(1, 128, command, application, 5, 6, parts(command)), due);
            }
        }
    }

    private static void flags() {
        check.of("3008 FLAGS have others than the four, or FAULT.");
        for (int more = 0; more < 128; more++) {
            boolean right = (more & ~80) == 0;
            byte[] due = right ? Wire.answer(more & 64, Wire.WATCH, 5, 6, 2001, Wire.number(278, 1))
                    : plain(32 | more & 64, 280, 0, 3008);
            answered("flags " + more, Wire.message(1, 128 | more, Wire.WATCH, 0, 5, 6, ORIGIN), due);
        }
    }

    private static void orderOfHeads() {
        check.of("WRONG is a REQUEST by the first of these (the RESULT with which it is answered)");
        byte[] bad = unknown(65, 4);
        answered("all", Wire.message(2, 168, 999, 9, 5, 6, bad), plain(0, 999, 9, 5011));
        answered("all but the version", Wire.message(1, 168, 999, 9, 5, 6, bad), plain(32, 999, 9, 3001));
        answered("application, flags, attributes", Wire.message(1, 168, 280, 9, 5, 6, bad), plain(32, 280, 9, 3007));
        answered("flags, attributes", Wire.message(1, 168, 280, 0, 5, 6, bad), plain(32, 280, 0, 3008));
        answered("an attribute, and two that lack", Wire.message(1, 128, 280, 0, 5, 6, bad),
                Wire.answer(32, Wire.WATCH, 5, 6, 3009, Wire.failed(9999)));
        answered("one lacks, one is twice", Wire.request(Wire.WATCH, 5, 6, Wire.text(264, "a"), Wire.text(264, "a")),
                wrongAnswer(Wire.WATCH, false, 5005, 296));
    }

    private static void fewOctetsLeft() {
        check.of("5014 fewer than 8 octets are left");
        watch("4 in the message", new byte[4], 5014, 0);
        right("none in the message");
        right("8 in the message", Wire.attribute(9999, 0, NONE));
        for (int left = 1; left <= 7; left++) {
            watch(left + " in a group", Wire.group(443, new byte[left]), 5014, 0);
            watch(left + " behind one in a group", Wire.group(443, Wire.number(278, 1), new byte[left]), 5014, 0);
            watch(left + " in a third group", Wire.group(443, Wire.group(437, Wire.group(446, new byte[left]))), 5014, 0);
        }
        right("8 in a group", Wire.group(443, Wire.attribute(9999, 0, NONE)));
    }

    private static void lengthsBelow() {
        check.of("or LENGTH is below 8 (12 with MAKER)");
        for (int length = 0; length <= 7; length++) {
            watch("length " + length, Wire.attribute(9999, 0, length, NONE, 0), 5014, 9999);
            watch("length in a group " + length, Wire.group(446, Wire.attribute(9999, 0, length, NONE, 0)), 5014, 9999);
        }
        right("length 8", Wire.attribute(9999, 0, 8, NONE, 0));
        for (int length = 0; length <= 11; length++) {
            watch("maker, length " + length, Wire.attribute(264, 128, length, new byte[4], 0), 5014, 264);
        }
        right("maker, length 12", Wire.attribute(264, 128, 12, new byte[4], 0));
    }

    private static void lengthsBeyond() {
        check.of("or goes beyond the end of what it is in");
        right("up to the end", Wire.attribute(9999, 0, 16, new byte[8], 0));
        watch("one beyond", Wire.attribute(9999, 0, 17, new byte[8], 0), 5014, 9999);
        watch("far beyond", Wire.attribute(9999, 0, 0xFFFFFF, new byte[8], 0), 5014, 9999);
        byte[] behind = Wire.number(278, 1);
        right("up to the end of a group", Wire.group(443, Wire.attribute(9999, 0, 16, new byte[8], 0)), behind);
        watch("one beyond the group's", Wire.join(Wire.group(443, Wire.attribute(9999, 0, 17, new byte[8], 0)), behind),
                5014, 9999);
        watch("one beyond the inner group's", Wire.group(443, Wire.group(437, Wire.attribute(9999, 0, 9, NONE, 0)), behind),
                5014, 9999);
        watch("a group beyond its group's", Wire.join(Wire.group(443, Wire.attribute(437, 64, 9, NONE, 0)), behind),
                5014, 437);
    }

    private static void paddingThatLacks() {
        check.of("(PADDING that lacks at the end is nothing)");
        for (int size = 1; size <= 4; size++) {
            byte[] text = Wire.attribute(444, 64, 8 + size, new byte[size], 9);
            for (int there = 8 + size; there <= 12; there++) {
                byte[] cut = Arrays.copyOf(text, there);
                right(size + " of data, cut to " + there, Wire.group(443, cut), Wire.number(278, 1));
                byte[] inner = Arrays.copyOf(Wire.group(437, cut), 8 + there);
                right("twice", Wire.group(443, inner), Wire.number(278, 1));
            }
            watch("data that lack", Wire.group(443, Arrays.copyOf(text, 7 + size)), 5014, 444);
        }
    }

    private static void attributeFlags() {
        check.of("3009 its FLAGS have others than the three");
        for (int flags = 0; flags <= 255; flags++) {
            byte[] one = Wire.attribute(278, flags, new byte[4]);
            if ((flags & 31) != 0) {
                watch("flags " + flags, one, 3009, 278);
            } else if ((flags & 192) == 192) {
                watch("maker and must " + flags, one, 5001, 278);
            } else {
                right("flags " + flags, one);
            }
        }
        watch("before 5001", unknown(65, 4), 3009, 9999);
        watch("behind 5014", Wire.attribute(9999, 65, 7, NONE, 0), 5014, 9999);
        watch("before the data", Wire.attribute(278, 1, new byte[5]), 3009, 278);
        watch("of a fourth group", Wire.group(443, Wire.group(443, Wire.group(443, Wire.attribute(443, 1, NONE)))), 3009, 443);
    }

    private static void notKnown() {
        check.of("5001 it is not KNOWN, and has MUST");
        watch("must", unknown(64, 4), 5001, 9999);
        watch("must and kept", unknown(96, 4), 5001, 9999);
        right("kept", unknown(32, 4));
        right("no flag", unknown(0, 4));
        watch("in a group", Wire.group(446, unknown(64, 4)), 5001, 9999);
        watch("without data", unknown(64, 0), 5001, 9999);
    }

    private static void passedOver() {
        check.of("(one that is not KNOWN and has not is passed over, with what is in it)");
        right("one that would be wrong in it", Wire.attribute(9999, 0, unknown(65, 4)));
        right("octets in it", Wire.attribute(9999, 0, new byte[7]), Wire.number(278, 1));
        right("four groups in it", Wire.attribute(9999, 0, Wire.group(443, Wire.group(443, Wire.group(443, Wire.group(443))))));
        answered("what it must have in it", Wire.request(Wire.WATCH, 5, 6, Wire.attribute(9999, 0, ORIGIN)),
                wrongAnswer(Wire.WATCH, false, 5005, 264));
    }

    private static void dataBehindMust() {
        check.of("5014 its DATA have not the octets told above");
        watch("without must", Wire.attribute(278, 0, new byte[3]), 5014, 278);
        watch("with must", Wire.attribute(278, 64, new byte[5]), 5014, 278);
        watch("in a group", Wire.group(443, Wire.attribute(444, 0, NONE)), 5014, 444);
        right("with maker it is not known", Wire.attribute(278, 128, new byte[7]));
    }

    private static byte[] deep(int groups, byte[]... inner) {
        byte[] all = Wire.join(inner);
        for (int i = 0; i < groups; i++) {
            all = Wire.group(GROUPS[i % GROUPS.length], all);
        }
        return all;
    }

    private static void fourthGroup() {
        check.of("(a group that would be the fourth, one in another, is 5014 itself)");
        right("one", deep(1));
        right("two", deep(2));
        right("three", deep(3));
        watch("four", Wire.group(279, deep(3)), 5014, 443);
        watch("five", Wire.group(279, Wire.group(446, deep(3))), 5014, 437);
        watch("the fourth, before what is in it", Wire.group(279, Wire.group(446, Wire.group(431,
                Wire.group(437, unknown(65, 4))))), 5014, 437);
        right("in the third one that is no group", deep(3, Wire.units(1), Wire.number(278, 1)));
        right("four, one behind the other", deep(3), deep(3), deep(3), deep(3));
        right("groups behind one another in the third", deep(2, Wire.group(443), Wire.group(437), Wire.group(446)));
        for (int code : GROUPS) {
            watch("code " + code, Wire.group(443, Wire.group(443, Wire.group(443, Wire.group(code)))), 5014, code);
        }
    }

    private static void oneBehindTheOther() {
        check.of("Then its ATTRIBUTES, each with all that is in it, one behind the other");
        byte[] flags = Wire.attribute(278, 1, new byte[4]);
        watch("the first", Wire.join(flags, unknown(64, 4)), 3009, 278);
        watch("the other first", Wire.join(unknown(64, 4), flags), 5001, 9999);
        watch("in a group first", Wire.join(Wire.group(443, flags), unknown(64, 4)), 3009, 278);
        watch("behind a group", Wire.join(Wire.group(443), unknown(64, 4)), 5001, 9999);
        watch("the group itself first", Wire.attribute(443, 65, unknown(64, 4)), 3009, 443);
        watch("the last", Wire.join(Wire.number(278, 1), Wire.number(258, 1), new byte[4]), 5014, 0);
    }

    private static void missing() {
        check.of("Then 5005 one that it must have is not there among the MESSAGE's own (the first of them).");
        for (int command : COMMANDS) {
            byte[][] parts = parts(command);
            answered("all lack", Wire.request(command, 5, 6), wrongAnswer(command, false, 5005, code(parts[0])));
            for (int i = 0; i < parts.length; i++) {
                byte[][] fewer = parts(command);
                int code = code(fewer[i]);
                fewer[i] = Wire.group(443, parts[i]);
                answered(code + " in a group", Wire.request(command, 5, 6, fewer),
                        wrongAnswer(command, i > 0, 5005, code));
                fewer[i] = Wire.attribute(code, 128, new byte[8]);
                answered(code + " with maker", Wire.request(command, 5, 6, fewer),
                        wrongAnswer(command, i > 0, 5005, code));
                Arrays.fill(fewer, i, fewer.length, NONE);
                answered(code + " and those behind it lack", Wire.request(command, 5, 6, fewer),
                        wrongAnswer(command, i > 0, 5005, code));
            }
        }
    }

    private static void twice() {
        check.of("5009 one that it must have is there twice (AUTH may be; the first of them).");
        for (int command : COMMANDS) {
            byte[][] parts = parts(command);
            for (int i = 0; i < parts.length; i++) {
                byte[][] more = parts(command);
                for (int k = i; k < more.length; k++) {
                    more[k] = Wire.join(more[k], more[k]);
                }
                boolean auth = code(parts[i]) == 258;
                answered(code(parts[i]) + " and those behind it", Wire.request(command, 5, 6, more),
                        auth ? rightAnswer(command) : wrongAnswer(command, true, 5009, code(parts[i])));
                byte[] all = Wire.join(parts);
                answered(code(parts[i]) + " once more in a group",
                        Wire.request(command, 5, 6, all, Wire.group(443, parts[i])), rightAnswer(command));
                answered(code(parts[i]) + " once more with maker", Wire.request(command, 5, 6, all,
                        Wire.attribute(code(parts[i]), 128, new byte[4])), rightAnswer(command));
            }
        }
    }

    /** Whether an ANSWER to the OPENING opens its PEER. */
    private static void opens(String what, boolean does, byte[] answer) {
        QuotaPeers x = Scene.in(2, "a.b");
        check.due(what + ": done", Check.feed(x, 1, answer), 1);
        check.due(what + ": state", x.state(1, 0), does ? 6 : 0);
        check.due(what + ": lost", x.lost(), does ? 0 : 1);
    }

    private static byte[] openAnswer(int version, int flags, byte[]... more) {
        return Wire.message(version, flags, Wire.OPENING, 0, 1, 1, Wire.number(268, 2001), ORIGIN, Wire.join(more));
    }

    private static void wrongAnswers() {
        check.of("An ANSWER is WRONG by 5011, by 3008 (FAULT is right), by its ATTRIBUTES as above");
        opens("version 0", false, openAnswer(0, 0));
        opens("version 1", true, openAnswer(1, 0));
        opens("version 2", false, openAnswer(2, 0));
        for (int flags = 0; flags < 128; flags++) {
            opens("flags " + flags, (flags & 15) == 0, openAnswer(1, flags));
        }
        opens("fewer than 8", false, openAnswer(1, 0, new byte[4]));
        opens("length 7", false, openAnswer(1, 0, Wire.attribute(9999, 0, 7, NONE, 0)));
        opens("length 8", true, openAnswer(1, 0, Wire.attribute(9999, 0, 8, NONE, 0)));
        opens("length beyond", false, openAnswer(1, 0, Wire.attribute(9999, 0, 9, NONE, 0)));
        opens("flags of one", false, openAnswer(1, 0, unknown(16, 4)));
        opens("not known, must", false, openAnswer(1, 0, unknown(64, 4)));
        opens("not known", true, openAnswer(1, 0, unknown(0, 4)));
        opens("data", false, openAnswer(1, 0, Wire.attribute(278, 0, new byte[3])));
        opens("three groups", true, openAnswer(1, 0, deep(3)));
        opens("a fourth group", false, openAnswer(1, 0, Wire.group(443, deep(3))));
        opens("its application is free", true, Wire.message(1, 0, Wire.OPENING, 4, 1, 1, Wire.number(268, 2001), ORIGIN));
        opens("its end is free", true, Wire.message(1, 0, Wire.OPENING, 0, 1, 9, Wire.number(268, 2001), ORIGIN));
    }

    private static void answersHaveThree() {
        check.of("or when it has not RESULT, HOST and REALM (the first ones count)");
        byte[] result = Wire.number(268, 2001);
        byte[] host = Wire.text(264, "a.b");
        byte[] realm = Wire.text(296, "r");
        byte[][] three = {result, host, realm};
        opens("all", true, Wire.message(1, 0, 257, 0, 1, 1, three));
        opens("another order", true, Wire.message(1, 0, 257, 0, 1, 1, realm, host, result));
        for (int i = 0; i < 3; i++) {
            byte[] one = three[i];
            three[i] = NONE;
            opens("without " + code(one), false, Wire.message(1, 0, 257, 0, 1, 1, three));
            three[i] = Wire.group(443, one);
            opens("in a group " + code(one), false, Wire.message(1, 0, 257, 0, 1, 1, three));
            three[i] = Wire.attribute(code(one), 128, new byte[4]);
            opens("with maker " + code(one), false, Wire.message(1, 0, 257, 0, 1, 1, three));
            three[i] = Wire.join(one, one);
            opens("twice " + code(one), true, Wire.message(1, 0, 257, 0, 1, 1, three));
            three[i] = one;
        }
        opens("the first result", true, Wire.message(1, 0, 257, 0, 1, 1, result, Wire.number(268, 1), host, realm));
        opens("not the second", false, Wire.message(1, 0, 257, 0, 1, 1, Wire.number(268, 1), result, host, realm));
        opens("the first host", true, Wire.message(1, 0, 257, 0, 1, 1, result, host, Wire.text(264, "x"), realm));
        opens("not the second", false, Wire.message(1, 0, 257, 0, 1, 1, result, Wire.text(264, "x"), host, realm));
    }

    private static void answersBelong() {
        check.of("It belongs to a REQUEST of the NODE when it comes on the CONNECTION on which this was sent,"
                + " with its COMMAND and its HOP.");
        long[] hops = {0, 1, 2, 1L << 31, 257, 4294967295L};
        for (long hop : hops) {
            opens("hop " + hop, hop == 1, Wire.reply(Wire.OPENING, hop, 2001, "a.b"));
        }
        int[] commands = {256, 257, 258, 280, 282, 257 | 1 << 16};
        for (int command : commands) {
            opens("command " + command, command == 257, Wire.reply(command, 1, 2001, "a.b"));
        }
        // PEERS 1 and 2 both have a WATCH sent: HOPS 1 and 2.
        QuotaPeers x = Scene.openPeers(2);
        x.tick(30);
        Check.feed(x, 2, Wire.reply(Wire.WATCH, 1, 2001, "a"));
        Check.feed(x, 1, Wire.reply(Wire.WATCH, 2, 2001, "b"));
        check.due("on another connection", x.state(1, 4) + x.state(2, 4), 2);
        check.due("lost", x.lost(), 2);
        Check.feed(x, 1, Wire.reply(Wire.WATCH, 1, 2001, "a"));
        check.due("on its own", x.state(1, 4), 0);
        Check.feed(x, 2, Wire.reply(Wire.WATCH, 2, 2001, "b"));
        check.due("on its own", x.state(2, 4), 0);
        check.due("no more lost", x.lost(), 2);
    }

    private static void passedAsItWas() {
        check.of("FLAGS: PASSED as it was");
        int[] flags = {0, 16, 64, 80};
        for (int flag : flags) {
            for (int command : COMMANDS) {
                byte[] due = rightAnswer(command);
                due[4] = (byte) (flag & 64);
                answered("flags " + flag + " of " + command,
                        Wire.message(1, 128 | flag, command, command == Wire.CREDIT ? 4 : 0, 5, 6, parts(command)), due);
            }
            answered("of a wrong one", Wire.message(1, 128 | flag, 999, 0, 5, 6), plain(32 | flag & 64, 999, 0, 3001));
            answered("of a wrong one", Wire.message(9, 128 | flag, 280, 0, 5, 6), plain(flag & 64, 280, 0, 5011));
        }
    }

    private static int faultOf(byte[] message) {
        return answerTo(message)[4] & 32;
    }

    private static void fault() {
        check.of("FAULT when RESULT is 3000 .. 3999");
        check.due("3001", faultOf(Wire.request(999, 5, 6)), 32);
        check.due("3007", faultOf(Wire.message(1, 128, 280, 4, 5, 6)), 32);
        check.due("3008", faultOf(Wire.message(1, 160, 280, 0, 5, 6)), 32);
        check.due("3009", faultOf(Wire.request(280, 5, 6, unknown(1, 0))), 32);
        check.due("2001", faultOf(Wire.watch("a.b", 5)), 0);
        check.due("5001", faultOf(Wire.request(280, 5, 6, unknown(64, 0))), 0);
        check.due("5002", faultOf(Wire.credit("s", 6, 2, 0)), 0);
        check.due("5011", faultOf(Wire.message(2, 128, 280, 0, 5, 6)), 0);
        QuotaPeers x = Scene.withAccount(0);
        Check.feed(x, 1, Wire.credit("s", 6, 1, 0, Wire.subscriber("120")));
        check.due("4012", Check.take(x, 1), Wire.creditAnswer("s", 6, 4012, 1, 0));
        Scene.come(x, "a.b");
        check.due("3004", Check.take(x, 2), Wire.answer(32, Wire.OPENING, 72, 82, 3004));
        Scene.come(x, "x");
        check.due("3010", Check.take(x, 2), Wire.answer(32, Wire.OPENING, 72, 82, 3010));
    }

    private static void asTheyWere() {
        check.of("COMMAND, APPLICATION, HOP, END as they were");
        long[] values = {0, 1, 2147483647L, 2147483648L, 4294967295L};
        for (long hop : values) {
            for (long end : values) {
                answered("hop " + hop + " end " + end, Wire.request(Wire.WATCH, hop, end, ORIGIN),
                        Wire.answer(0, Wire.WATCH, hop, end, 2001, Wire.number(278, 1)));
            }
        }
        answered("command and application", Wire.message(1, 128, 0xFFFFFF, -1, 5, 6), plain(32, 0xFFFFFF, -1, 3001));
        answered("command and application 0", Wire.message(1, 128, 0, 0, 5, 6), plain(32, 0, 0, 3001));
    }

    private static void sessionInAnswers() {
        check.of("SESSION (of a CREDIT, the first of the MESSAGE's own, if its ATTRIBUTES were gone through up to it and right)");
        byte[] session = Wire.text(263, "s");
        byte[] bad = unknown(64, 4);
        int credit = Wire.CREDIT;
        answered("before what is wrong", Wire.request(credit, 5, 6, session, bad), wrongAnswer(credit, true, 5001, 9999));
        answered("behind what is wrong", Wire.request(credit, 5, 6, bad, session), wrongAnswer(credit, false, 5001, 9999));
        answered("behind what is wrong in a group", Wire.request(credit, 5, 6, Wire.group(443, bad), session),
                wrongAnswer(credit, false, 5001, 9999));
        answered("itself of 0", Wire.request(credit, 5, 6, Wire.attribute(263, 64, NONE)),
                wrongAnswer(credit, false, 5014, 263));
        answered("itself of 41", Wire.request(credit, 5, 6, Wire.attribute(263, 64, new byte[41])),
                wrongAnswer(credit, false, 5014, 263));
        answered("the first of two", Wire.request(credit, 5, 6, session, Wire.text(263, "t"), ORIGIN, Wire.number(416, 1),
                Wire.number(415, 0)), wrongAnswer(credit, true, 5009, 263));
        answered("the second is wrong", Wire.request(credit, 5, 6, session, Wire.attribute(263, 64, NONE)),
                wrongAnswer(credit, true, 5014, 263));
        answered("in a group", Wire.request(credit, 5, 6, Wire.group(443, session), bad),
                wrongAnswer(credit, false, 5001, 9999));
        answered("with maker", Wire.request(credit, 5, 6, Wire.attribute(263, 128, new byte[5]), bad),
                wrongAnswer(credit, false, 5001, 9999));
        answered("none gone through, 5011", Wire.message(2, 128, credit, 4, 5, 6, session), plain(0, credit, 4, 5011));
        answered("none gone through, 3007", Wire.message(1, 128, credit, 0, 5, 6, session), plain(32, credit, 0, 3007));
        answered("none gone through, 3008", Wire.message(1, 129, credit, 4, 5, 6, session), plain(32, credit, 4, 3008));
        answered("not of a watch", Wire.request(Wire.WATCH, 5, 6, session, ORIGIN), rightAnswer(Wire.WATCH));
        answered("one that lacks behind it", Wire.request(credit, 5, 6, session), wrongAnswer(credit, true, 5005, 264));
        QuotaPeers x = Scene.open();
        Check.feed(x, 1, Wire.request(credit, 5, 6, session));
        Check.drain(x, 1);
        Check.feed(x, 1, Wire.request(credit, 5, 6));
        check.due("not that of the message before", Check.take(x, 1), wrongAnswer(credit, false, 5005, 263));
    }

    private static void whatAnswersTell() {
        check.of("of an OPENING with RESULT 2001 ADDRESS (0 1 127 0 0 1), VENDOR 0, PRODUCT \"peer\", AUTH 4;"
                + " of a WATCH with 2001 STATE 1");
        QuotaPeers x = Scene.withPeer("a.b");
        Scene.come(x, "a.b");
        check.due("opening, 2001", Check.take(x, 1), Scene.welcome(1));
        answered("opening, 5012", Wire.opening("a.b", 5, 6), Wire.answer(0, Wire.OPENING, 5, 6, 5012));
        answered("watch, 2001", Wire.watch("a.b", 5), Wire.answer(0, Wire.WATCH, 5, 5, 2001, Wire.number(278, 1)));
        answered("watch, 3007", Wire.message(1, 128, 280, 1, 5, 6, ORIGIN), plain(32, 280, 1, 3007));
        answered("ending, 2001", Wire.ending("a.b", 5), Wire.answer(0, Wire.ENDING, 5, 5, 2001));
    }

    private static void failed() {
        check.of("the CODE that is WRONG, MUST, without DATA (5014 for fewer than 8 octets: the CODE is 0)");
        watch("5001", Wire.attribute(4294967295L, 64, new byte[4]), 5001, 4294967295L);
        watch("3009", Wire.attribute(2147483648L, 255, new byte[4]), 3009, 2147483648L);
        watch("5014 by its data", Wire.attribute(278, 96, new byte[5]), 5014, 278);
        watch("5014 by its length", Wire.attribute(278, 0, 7, NONE, 0), 5014, 278);
        watch("5014 by its length, code 0", Wire.attribute(0, 0, 7, NONE, 0), 5014, 0);
        watch("5014, fewer than 8", Wire.octets(0, 0, 1, 22), 5014, 0);
        watch("5014, fewer than 8 in a group", Wire.group(443, Wire.octets(0, 0, 1, 22, 64, 0, 0)), 5014, 0);
        answered("5005", Wire.request(Wire.WATCH, 5, 6), wrongAnswer(Wire.WATCH, false, 5005, 264));
        answered("5009", Wire.request(Wire.WATCH, 5, 6, ORIGIN, ORIGIN), wrongAnswer(Wire.WATCH, false, 5009, 264));
        answered("none for 3001", Wire.request(999, 5, 6, new byte[4]), plain(32, 999, 0, 3001));
        answered("none for 5011", Wire.message(2, 128, 280, 0, 5, 6, new byte[4]), plain(0, 280, 0, 5011));
    }
}
