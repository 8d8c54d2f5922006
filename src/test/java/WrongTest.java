/** Promise 8: what is WRONG, in which order, and how it is answered. */
public final class WrongTest {
    private static final Check check = new Check();
    private static final byte[] ORIGIN = Wire.origin("a.b", "r");
    private static QuotaPeers node;

    public static void main(String[] args) {
        node = open();
        heads();
        lengths();
        flags();
        unknown();
        sizes();
        groups();
        padding();
        musts();
        sessionInAnswers();
        order();
        answersThatAreWrong();
        check.end("WrongTest");
    }

    private static QuotaPeers open() {
        QuotaPeers x = new QuotaPeers();
        Check.peer(x, "a.b", false);
        x.accept();
        Check.feed(x, 1, Wire.opening("a.b", 1, 1));
        Check.drain(x, 1);
        return x;
    }

    private static void answered(String what, byte[] message, byte[] answer) {
        check.due(what + ": done", Check.feed(node, 1, message), 1);
        check.due(what, Check.take(node, 1), answer);
    }

    private static void watch(String what, byte[] more, int result, long code) {
        int flags = result >= 3000 && result <= 3999 ? Wire.FAULT : 0;
        byte[] told = result == 2001 ? Wire.number(278, 1) : Wire.failed(code);
        answered(what, Wire.request(Wire.WATCH, 5, 6, ORIGIN, more), Wire.answer(flags, Wire.WATCH, 5, 6, result, told));
    }

    private static byte[] plain(int flags, int command, int application, int result) {
        return Wire.message(1, flags, command, application, 5, 6, Wire.number(268, result), Wire.origin("m.home", "home"));
    }

    private static void heads() {
        int request = Wire.REQUEST;
        answered("version", Wire.message(2, request, 999, 9, 5, 6), plain(0, 999, 9, 5011));
        answered("version 0", Wire.message(0, request | 15, Wire.WATCH, 0, 5, 6, ORIGIN), plain(0, 280, 0, 5011));
        answered("command", Wire.message(1, request | 15, 258, 9, 5, 6), plain(32, 258, 9, 3001));
        answered("command 0", Wire.message(1, request, 0, 0, 5, 6), plain(32, 0, 0, 3001));
        answered("command, passed", Wire.message(1, request | 64 | 16, 0xFFFFFF, -1, 5, 6), plain(96, 0xFFFFFF, -1, 3001));
        answered("application", Wire.message(1, request | 15, Wire.WATCH, 4, 5, 6, ORIGIN), plain(32, 280, 4, 3007));
        answered("application", Wire.message(1, request, Wire.OPENING, 1, 5, 6, ORIGIN), plain(32, 257, 1, 3007));
        answered("application", Wire.message(1, request, Wire.ENDING, -1, 5, 6, ORIGIN), plain(32, 282, -1, 3007));
        answered("application", Wire.message(1, request, Wire.CREDIT, 0, 5, 6, Wire.text(263, "s")), plain(32, 272, 0, 3007));
        for (int bit = 1; bit <= 8; bit *= 2) {
            answered("flags", Wire.message(1, request | bit, Wire.WATCH, 0, 5, 6, ORIGIN), plain(32, 280, 0, 3008));
        }
        answered("fault", Wire.message(1, request | 32, Wire.WATCH, 0, 5, 6, Wire.octets(0, 0, 0, 0)), plain(32, 280, 0, 3008));
        answered("passed and again", Wire.message(1, request | 64 | 16, Wire.WATCH, 0, 5, 6, ORIGIN),
                Wire.answer(64, Wire.WATCH, 5, 6, 2001, Wire.number(278, 1)));
    }

    private static void lengths() {
        watch("four octets left", new byte[4], 5014, 0);
        watch("length 7", Wire.attribute(278, 64, 7, new byte[4], 0), 5014, 278);
        watch("length 0", Wire.attribute(9999, 31, 0, new byte[4], 0), 5014, 9999);
        watch("beyond the end", Wire.attribute(278, 64, 13, new byte[4], 0), 5014, 278);
        watch("far beyond the end", Wire.attribute(4294967295L, 0, 0xFFFFFF, new byte[4], 0), 5014, 4294967295L);
        watch("maker with 8", Wire.attribute(9999, 128, 8, new byte[4], 0), 5014, 9999);
        watch("maker with 11", Wire.attribute(9999, 128, 11, new byte[4], 0), 5014, 9999);
        watch("maker with 12", Wire.attribute(9999, 128, 12, new byte[4], 0), 2001, 0);
        watch("not known with 8", Wire.attribute(9999, 0, 8, new byte[0], 0), 2001, 0);
    }

    private static void flags() {
        for (int bit = 1; bit <= 16; bit *= 2) {
            watch("attribute's flags", Wire.attribute(9999, bit | 64, new byte[4]), 3009, 9999);
            watch("attribute's flags", Wire.attribute(278, bit, new byte[4]), 3009, 278);
        }
        watch("kept", Wire.attribute(278, 32 | 64, new byte[4]), 2001, 0);
        watch("no flag", Wire.attribute(278, 0, new byte[4]), 2001, 0);
    }

    private static void unknown() {
        watch("not known, must", Wire.attribute(9999, 64, new byte[4]), 5001, 9999);
        watch("not known", Wire.attribute(9999, 32, new byte[5]), 2001, 0);
        watch("known, but maker and must", Wire.attribute(264, 192, new byte[7]), 5001, 264);
        watch("known, but maker", Wire.attribute(264, 128, new byte[7]), 2001, 0);
        watch("what is in it is passed over", Wire.attribute(9999, 0, Wire.attribute(9998, 64, new byte[4])), 2001, 0);
        watch("negative code", Wire.attribute(4294967295L, 64, new byte[4]), 5001, 4294967295L);
        int[] near = {256, 259, 262, 265, 267, 270, 272, 274, 277, 280, 282, 284, 286, 292, 294, 295, 297, 414, 417,
                420, 423, 430, 432, 435, 438, 442, 445, 447, 449, 451, 0};
        for (int code : near) {
            watch("not known, " + code, Wire.attribute(code, 64, new byte[4]), 5001, code);
        }
    }

    private static void sizes() {
        int[] texts = {263, 283, 293, 269, 444};
        for (int code : texts) {
            watch("text of 0", Wire.attribute(code, 64, new byte[0]), 5014, code);
            watch("text of 1", Wire.attribute(code, 64, new byte[1]), 2001, 0);
            watch("text of 40", Wire.attribute(code, 64, new byte[40]), 2001, 0);
            watch("text of 41", Wire.attribute(code, 64, new byte[41]), 5014, code);
        }
        int[] numbers = {268, 258, 266, 278, 273, 285, 416, 415, 436, 450, 448, 422};
        for (int code : numbers) {
            watch("number of 3", Wire.attribute(code, 64, new byte[3]), 5014, code);
            watch("number of 4", Wire.attribute(code, 64, new byte[4]), 2001, 0);
            watch("number of 8", Wire.attribute(code, 64, new byte[8]), 5014, code);
        }
        watch("units of 7", Wire.attribute(421, 64, new byte[7]), 5014, 421);
        watch("units of 8", Wire.attribute(421, 64, new byte[8]), 2001, 0);
        watch("units of 9", Wire.attribute(421, 64, new byte[9]), 5014, 421);
        watch("address of 5", Wire.attribute(257, 64, new byte[5]), 5014, 257);
        watch("address of 6", Wire.attribute(257, 64, new byte[6]), 2001, 0);
        watch("address of 8", Wire.attribute(257, 64, new byte[8]), 5014, 257);
    }

    private static void groups() {
        int[] groups = {443, 437, 431, 446, 279};
        for (int code : groups) {
            watch("empty group", Wire.group(code), 2001, 0);
            watch("group with one", Wire.group(code, Wire.number(278, 1)), 2001, 0);
            watch("group with 4 octets", Wire.group(code, new byte[4]), 5014, 0);
            watch("group with 1 octet", Wire.group(code, new byte[1]), 5014, 0);
            watch("unknown in a group", Wire.group(code, Wire.number(9999, 1)), 5001, 9999);
            watch("wrong flags in a group", Wire.group(code, Wire.attribute(258, 65, new byte[4])), 3009, 258);
            watch("beyond its group", Wire.join(Wire.group(code, Wire.attribute(258, 64, 13, new byte[4], 0)),
                    Wire.number(258, 1)), 5014, 258);
        }
        byte[] third = Wire.group(443, Wire.group(437, Wire.group(431, Wire.units(1))));
        watch("three groups", third, 2001, 0);
        watch("the fourth group", Wire.group(443, Wire.group(437, Wire.group(431, Wire.group(446)))), 5014, 446);
        watch("the fourth group's flags", Wire.group(443, Wire.group(437, Wire.group(431,
                Wire.attribute(446, 1, new byte[0])))), 3009, 446);
        watch("not known as the fourth", Wire.group(443, Wire.group(437, Wire.group(431,
                Wire.attribute(9999, 0, new byte[0])))), 2001, 0);
        watch("an attribute in a group is no own one", Wire.group(443, Wire.text(264, "x"), Wire.text(264, "y")), 2001, 0);
        watch("behind a group in its group", Wire.group(443, Wire.group(437), Wire.number(9999, 1)), 5001, 9999);
        watch("a group with maker is not known", Wire.attribute(443, 128, new byte[8]), 2001, 0);
    }

    private static void padding() {
        watch("padding of any value", Wire.join(Wire.attribute(444, 64, 9, new byte[1], 255), Wire.number(258, 1)), 2001, 0);
        // The group ends with its last attribute's data, or within its padding.
        byte[] text = Wire.attribute(444, 64, 9, new byte[1], 7);
        for (int left = 9; left <= 12; left++) {
            byte[] data = java.util.Arrays.copyOf(text, left);
            watch("padding that lacks", Wire.join(Wire.attribute(443, 64, data), Wire.number(258, 1)), 2001, 0);
        }
        byte[] inner = Wire.attribute(437, 64, java.util.Arrays.copyOf(text, 9));
        watch("padding that lacks twice", Wire.attribute(443, 64, java.util.Arrays.copyOf(inner, 17)), 2001, 0);
        watch("one behind it", Wire.join(Wire.attribute(443, 64, java.util.Arrays.copyOf(inner, 17)),
                Wire.number(9999, 1)), 5001, 9999);
    }

    private static byte[][] parts(int command) {
        byte[] session = Wire.text(263, "s");
        byte[] host = Wire.text(264, "a.b");
        byte[] realm = Wire.text(296, "r");
        switch (command) {
            case Wire.OPENING:
                return new byte[][] {host, realm, Wire.number(258, 4)};
            case Wire.WATCH:
                return new byte[][] {host, realm};
            case Wire.ENDING:
                return new byte[][] {host, realm, Wire.number(273, 0)};
            default:
                return new byte[][] {session, host, realm, Wire.number(416, 9), Wire.number(415, 0)};
        }
    }

    private static int code(byte[] attribute) {
        return (attribute[2] & 255) << 8 | attribute[3] & 255;
    }

    private static byte[] wrong(int command, boolean session, int result, long code) {
        byte[] name = session && command == Wire.CREDIT ? Wire.text(263, "s") : new byte[0];
        return Wire.message(1, 0, command, command == Wire.CREDIT ? 4 : 0, 5, 6, name, Wire.number(268, result),
                Wire.origin("m.home", "home"), Wire.failed(code));
    }

    private static void musts() {
        int[] commands = {Wire.OPENING, Wire.WATCH, Wire.ENDING, Wire.CREDIT};
        for (int command : commands) {
            byte[][] parts = parts(command);
            for (int i = 0; i < parts.length; i++) {
                byte[] one = parts[i];
                parts[i] = new byte[0];
                answered("missing", Wire.request(command, 5, 6, parts), wrong(command, i > 0, 5005, code(one)));
                parts[i] = Wire.attribute(code(one), 128, new byte[8]);
                answered("with maker", Wire.request(command, 5, 6, parts), wrong(command, i > 0, 5005, code(one)));
                parts[i] = Wire.group(443, one);
                answered("in a group", Wire.request(command, 5, 6, parts), wrong(command, i > 0, 5005, code(one)));
                parts[i] = one;
                if (code(one) != 258) {
                    answered("twice", Wire.request(command, 5, 6, Wire.join(parts), one), wrong(command, true, 5009, code(one)));
                }
            }
            byte[] all = Wire.join(parts);
            answered("all twice", Wire.request(command, 5, 6, all, all), wrong(command, true, 5009, code(parts[0])));
            answered("none", Wire.request(command, 5, 6), wrong(command, false, 5005, code(parts[0])));
        }
        answered("missing before twice", Wire.request(Wire.ENDING, 5, 6, ORIGIN, ORIGIN), wrong(Wire.ENDING, false, 5005, 273));
        answered("thrice", Wire.request(Wire.WATCH, 5, 6, ORIGIN, Wire.text(296, "x"), Wire.text(296, "y")),
                wrong(Wire.WATCH, false, 5009, 296));
        answered("auth may be oftener", Wire.request(Wire.OPENING, 5, 6, ORIGIN, Wire.number(258, 1), Wire.number(258, 1)),
                Wire.answer(0, Wire.OPENING, 5, 6, 5012));
        watch("others may be oftener", Wire.join(Wire.number(278, 1), Wire.number(278, 2), Wire.text(263, "s"),
                Wire.text(263, "t")), 2001, 0);
    }

    private static void sessionInAnswers() {
        byte[] session = Wire.text(263, "s");
        byte[] bad = Wire.number(9999, 1);
        int credit = Wire.CREDIT;
        answered("session before", Wire.request(credit, 5, 6, session, bad), wrong(credit, true, 5001, 9999));
        answered("session behind", Wire.request(credit, 5, 6, bad, session), wrong(credit, false, 5001, 9999));
        answered("session itself", Wire.request(credit, 5, 6, Wire.attribute(263, 64, new byte[41])),
                wrong(credit, false, 5014, 263));
        answered("the first of two", Wire.request(credit, 5, 6, session, Wire.text(263, "other"), bad),
                wrong(credit, true, 5001, 9999));
        answered("in a group", Wire.request(credit, 5, 6, Wire.group(443, session), bad), wrong(credit, false, 5001, 9999));
        answered("flags", Wire.message(1, 128 | 32, credit, 4, 5, 6, session), plain(32, credit, 4, 3008));
        answered("version", Wire.message(7, 128, credit, 4, 5, 6, session), plain(0, credit, 4, 5011));
        answered("of a watch", Wire.request(Wire.WATCH, 5, 6, session, bad), wrong(Wire.WATCH, false, 5001, 9999));
        answered("3009", Wire.request(credit, 5, 6, session, Wire.attribute(9999, 1, new byte[4])),
                Wire.message(1, 32, credit, 4, 5, 6, session, Wire.number(268, 3009), Wire.origin("m.home", "home"),
                Wire.failed(9999)));
    }

    private static void order() {
        watch("the first one", Wire.join(Wire.number(9999, 1), new byte[4]), 5001, 9999);
        watch("the first one, in a group", Wire.join(Wire.group(443, Wire.number(9998, 1)), Wire.number(9999, 1)), 5001, 9998);
        watch("length before flags", Wire.attribute(9999, 65, 99, new byte[4], 0), 5014, 9999);
        watch("flags before must", Wire.attribute(9999, 65, new byte[4]), 3009, 9999);
        watch("flags before size", Wire.attribute(278, 65, new byte[3]), 3009, 278);
        answered("attributes before musts", Wire.request(Wire.WATCH, 5, 6, Wire.number(9999, 1)),
                wrong(Wire.WATCH, false, 5001, 9999));
    }

    private static void answersThatAreWrong() {
        // The ANSWER to the OPENING opens the PEER only if it is not WRONG.
        byte[] right = Wire.join(Wire.number(268, 2001), ORIGIN);
        opens("right", Wire.message(1, 0, 257, 0, 1, 1, right), true);
        opens("all flags", Wire.message(1, 112, 257, 0, 1, 1, right), true);
        opens("twice", Wire.message(1, 0, 257, 0, 1, 1, right, right), true);
        opens("version", Wire.message(2, 0, 257, 0, 1, 1, right), false);
        opens("flags", Wire.message(1, 8, 257, 0, 1, 1, right), false);
        opens("not known", Wire.message(1, 0, 257, 0, 1, 1, right, Wire.number(9999, 1)), false);
        opens("attribute's flags", Wire.message(1, 0, 257, 0, 1, 1, right, Wire.attribute(9999, 1, new byte[4])), false);
        opens("size", Wire.message(1, 0, 257, 0, 1, 1, right, Wire.attribute(278, 0, new byte[3])), false);
        opens("four octets", Wire.message(1, 0, 257, 0, 1, 1, right, new byte[4]), false);
        opens("no result", Wire.message(1, 0, 257, 0, 1, 1, ORIGIN), false);
        opens("no host", Wire.message(1, 0, 257, 0, 1, 1, Wire.number(268, 2001), Wire.text(296, "r")), false);
        opens("no realm", Wire.message(1, 0, 257, 0, 1, 1, Wire.number(268, 2001), Wire.text(264, "a.b")), false);
    }

    private static void opens(String what, byte[] answer, boolean does) {
        QuotaPeers x = new QuotaPeers();
        Check.peer(x, "a.b", false);
        x.start(1);
        x.connected(1, true);
        Check.feed(x, 1, answer);
        check.due("an answer: " + what, x.state(1, 0), does ? 6 : 0);
        check.due("an answer: " + what + ", lost", x.lost(), does ? 0 : 1);
    }
}
