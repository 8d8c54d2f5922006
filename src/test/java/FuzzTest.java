import java.util.Random;

/**
 * Long runs of calls that are drawn (always the same ones): nothing is ever thrown, what must always hold does, a
 * refusal changes nothing, and a twin that is told each second and each octet by itself answers the same.
 */
public final class FuzzTest {
    private static final Check check = new Check();
    private static final String[] NAMES = {"a.b", "z", "m.hom", "m.homes"};
    private static final long[] NUMBERS = {120, 7, 99999999999999999L};
    private static final long[] FIRST = {5000, 0, 1L << 60};

    private final Random random;
    private final QuotaPeers node = new QuotaPeers();
    private final QuotaPeers twin = new QuotaPeers();
    private int lastLost;

    private FuzzTest(long seed) {
        random = new Random(seed);
    }

    public static void main(String[] args) {
        for (int seed = 0; seed < 3000; seed++) {
            FuzzTest one = new FuzzTest(seed);
            one.prepare();
            for (int call = 0; call < 150; call++) {
                String before = Check.show(one.node);
                String text = one.step();
                one.mustHold("seed " + seed + " call " + call + " " + text, before);
            }
        }
        for (int seed = 0; seed < 300; seed++) {
            FuzzTest one = new FuzzTest(seed);
            for (int call = 0; call < 2000; call++) {
                one.wild();
            }
            check.due("the clock of seed " + seed, one.node.clock() >= 0 ? 0 : 1, 0);
        }
        check.end("FuzzTest");
    }

    /** Any number, often one that means something. */
    private int any() {
        return random.nextInt(3) > 0 ? random.nextInt(11) - 1 : random.nextInt() >> random.nextInt(32);
    }

    private long anyLong() {
        return random.nextInt(3) == 0 ? any() : random.nextLong() >> random.nextInt(64);
    }

    /** Any call with any arguments: whatever it answers, it must answer. */
    private void wild() {
        switch (random.nextInt(28)) {
            case 0: node.sign(random.nextBoolean() ? any() : 0x61 + random.nextInt(26)); break;
            case 1: node.own(); break;
            case 2: node.peer(random.nextBoolean()); break;
            case 3: node.start(any()); break;
            case 4: node.accept(); break;
            case 5: node.connected(any(), random.nextBoolean()); break;
            case 6: node.gone(any()); break;
            case 7: node.stop(any(), any()); break;
            case 8: node.tick(random.nextBoolean() ? any() : node.clock() + random.nextInt(2002)); break;
            case 9: node.take(any()); break;
            case 10: node.waiting(any()); break;
            case 11: node.connection(any(), any()); break;
            case 12: node.state(any(), any()); break;
            case 13: node.account(anyLong(), anyLong()); break;
            case 14: node.balance(anyLong(), any()); break;
            case 15: node.session(any(), any()); break;
            case 16: node.granted(any()); break;
            case 17: node.ask(any()); break;
            case 18: node.asked(any(), any()); break;
            case 19: node.kept(); break;
            case 20: node.lost(); break;
            case 21: node.feed(any(), anyLong(), anyLong(), anyLong(), anyLong(), any()); break;
            default: Check.feed(node, 1 + random.nextInt(8), noise()); break;
        }
    }

    /** A message whose attributes are drawn: codes that are known, groups, lengths that may be wrong. */
    private byte[] noise() {
        int[] codes = {263, 264, 296, 283, 293, 269, 444, 268, 258, 266, 278, 273, 285, 416, 415, 436, 450, 448, 422, 421,
                257, 443, 437, 431, 446, 279, 9999};
        byte[] body = Wire.join(Wire.text(263, "s"), Wire.origin("a", "b"), Wire.number(258, 4), Wire.number(416, 1));
        for (int i = random.nextInt(12); i > 0 && body.length < 500; i--) {
            int size = random.nextInt(4) == 0 ? random.nextInt(45) : random.nextBoolean() ? 4 : 8;
            int length = 8 + size + (random.nextInt(20) == 0 ? random.nextInt(9) - 4 : 0);
            byte[] data = new byte[size];
            random.nextBytes(data);
            int flags = random.nextInt(10) == 0 ? random.nextInt(256) : 64;
            body = Wire.join(body, Wire.attribute(codes[random.nextInt(codes.length)], flags, length, data, 9));
            if (random.nextInt(4) == 0) {
                body = Wire.group(codes[21 + random.nextInt(5)], body);
            }
        }
        int command = new int[] {257, 280, 282, 272, 258}[random.nextInt(5)];
        return Wire.message(1, random.nextBoolean() ? 128 : random.nextInt(256), command, command == 272 ? 4 : 0,
                random.nextInt(50), random.nextInt(50), body);
    }

    private void prepare() {
        for (int i = 0; i < NAMES.length; i++) {
            boolean starts = random.nextBoolean();
            Check.peer(node, NAMES[i], starts);
            Check.peer(twin, NAMES[i], starts);
        }
        for (int i = 0; i < NUMBERS.length; i++) {
            node.account(NUMBERS[i], FIRST[i]);
            twin.account(NUMBERS[i], FIRST[i]);
        }
    }

    /** One call, and the same on the twin. Those that are refused begin with a minus. */
    private String step() {
        int peer = random.nextInt(6);
        int line = random.nextInt(10);
        switch (random.nextInt(14)) {
            case 0:
                return same("start " + peer, node.start(peer), twin.start(peer));
            case 1:
                return same("accept", node.accept(), twin.accept());
            case 2:
                boolean on = random.nextInt(4) > 0;
                return same("connected " + line + " " + on, node.connected(line, on), twin.connected(line, on));
            case 3:
                if (random.nextInt(3) > 0) {
                    return "";
                }
                return same("gone " + line, node.gone(line), twin.gone(line));
            case 4:
                if (random.nextInt(3) > 0) {
                    return "";
                }
                int cause = random.nextInt(4);
                return same("stop " + peer, node.stop(peer, cause), twin.stop(peer, cause));
            case 5:
                return tick(node.clock() + random.nextInt(random.nextInt(8) == 0 ? 700 : 40));
            case 6:
                int k = random.nextInt(4);
                return same("ask " + k, node.ask(k), twin.ask(k));
            case 7:
                while (node.waiting(line) > 0) {
                    same("take", node.take(line), twin.take(line));
                }
                return "take " + line;
            default:
                int c = 1 + random.nextInt(8);
                return feed(c, draw(c));
        }
    }

    private String same(String what, long got, long want) {
        check.due("the twin: " + what, got, want);
        return (got < 0 ? "-" : "") + what;
    }

    private String tick(int t) {
        int each = 0;
        for (int s = twin.clock() + 1; s <= t; s++) {
            each += twin.tick(s);
        }
        return same("tick " + t, node.tick(t), each);
    }

    private String feed(int c, byte[] octets) {
        int each = 0;
        for (byte octet : octets) {
            each += Math.max(0, twin.feed(c, (octet & 255L) << 56, 0, 0, 0, 1));
        }
        same("feed " + c, Check.feed(node, c, octets), each);
        return "feed " + c;
    }

    /** Often what the state asks for, and now and then with an octet that is another one. */
    private byte[] draw(int c) {
        int p = node.connection(c, 1);
        String name = p > 0 && random.nextInt(8) > 0 ? NAMES[p - 1] : NAMES[random.nextInt(NAMES.length)];
        int hop = 1 + random.nextInt(6) + random.nextInt(40);
        int end = random.nextInt(40);
        byte[] message;
        switch (random.nextInt(9)) {
            case 0:
            case 1:
                message = p > 0 && random.nextBoolean() ? Wire.watch(name, hop) : Wire.opening(name, hop, end);
                break;
            case 2:
                message = Wire.reply(new int[] {257, 280, 282, 258}[random.nextInt(4)], hop, 2001, name);
                break;
            case 3:
                message = lastAnswer(c, name);
                break;
            case 4:
                message = random.nextInt(4) == 0 ? Wire.ending(name, hop) : Wire.watch(name, hop);
                break;
            default:
                message = credit(end);
                break;
        }
        if (random.nextInt(6) == 0 && message.length > 4) {
            message[4 + random.nextInt(message.length - 4)] ^= (byte) (1 << random.nextInt(8));
        }
        if (random.nextInt(60) == 0) {
            message[3] ^= (byte) (1 << random.nextInt(8));
        }
        return message;
    }

    /** The ANSWER to the last message that waits on a connection. */
    private byte[] lastAnswer(int c, String name) {
        int command = 280;
        int hop = 0;
        while (node.waiting(c) >= 20) {
            byte[] waits = Check.take(node, c);
            Check.take(twin, c);
            if ((waits[4] & 128) != 0) {
                command = (waits[6] & 255) << 8 | waits[7] & 255;
                hop = (waits[14] & 255) << 8 | waits[15] & 255;
            }
        }
        return Wire.reply(command, hop, random.nextInt(5) == 0 ? 0 : 2001, name);
    }

    private byte[] credit(int end) {
        long[] units = {0, 1, 10, 999, 4000, 1L << 60, (1L << 60) + 1, -1};
        byte[] who = Wire.subscriber(String.valueOf(NUMBERS[random.nextInt(NUMBERS.length)]));
        byte[] wanted = random.nextInt(3) == 0 ? new byte[0] : Wire.wanted(units[random.nextInt(units.length)]);
        byte[] used = random.nextInt(3) == 0 ? new byte[0] : Wire.used(units[random.nextInt(units.length)]);
        byte[] action = random.nextInt(3) == 0 ? new byte[0] : Wire.number(436, random.nextInt(4));
        return Wire.credit("s" + random.nextInt(5), random.nextInt(2000) + end, random.nextInt(6), random.nextInt(30),
                who, wanted, used, action);
    }

    private void mustHold(String when, String before) {
        String after = Check.show(node);
        if (when.contains(" -")) {
            check.due(when + " changed something", after.equals(before) ? 0 : 1, 0);
        }
        check.due(when + ": the twin differs", after.equals(Check.show(twin)) ? 0 : 1, 0);
        check.due(when + ": lost", node.lost() >= lastLost ? 0 : 1, 0);
        lastLost = node.lost();
        for (int p = 1; p <= NAMES.length; p++) {
            check.due(when + ": peer " + p, isSound(p) ? 0 : 1, 0);
        }
        long reserved = 0;
        for (int i = 0; i < NUMBERS.length; i++) {
            long balance = node.balance(NUMBERS[i], 0);
            reserved += node.balance(NUMBERS[i], 1);
            check.due(when + ": charged", FIRST[i] - balance, node.balance(NUMBERS[i], 2));
            boolean right = node.balance(NUMBERS[i], 1) >= 0 && balance >= node.balance(NUMBERS[i], 1) && balance <= 1L << 60;
            check.due(when + ": balance", right ? 0 : 1, 0);
        }
        for (int k = 0; k < node.sessions(); k++) {
            reserved -= node.granted(k);
        }
        check.due(when + ": reserved", reserved, 0);
    }

    private boolean isSound(int p) {
        int state = node.state(p, 0);
        int own = node.state(p, 1);
        int came = node.state(p, 2);
        int status = node.state(p, 3);
        boolean open = state == 5 || state == 6;
        int ownState = own == 0 ? 0 : node.connection(own, 0);
        int cameState = came == 0 ? 0 : node.connection(came, 0);
        int[] owns = {0, 1, 2, 1, 2, 0, 2};
        int[] cames = {0, 0, 0, 2, 2, 2, 0};
        boolean lines = state == 7 ? ownState + cameState == 2 : ownState == owns[state] && cameState == cames[state];
        boolean whose = (own == 0 || node.connection(own, 1) == p && node.connection(own, 2) == 1)
                && (came == 0 || node.connection(came, 1) == p && node.connection(came, 2) == 2);
        boolean statuses = open ? status == 1 || status == 2 || status == 4 : status == 0 || status == 3;
        boolean timer = node.state(p, 5) > node.clock() && node.state(p, 5) <= node.clock() + 30;
        return lines && whose && statuses && timer && (open || node.state(p, 4) == 0);
    }
}
