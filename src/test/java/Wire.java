import java.io.ByteArrayOutputStream;
import java.nio.charset.StandardCharsets;

/** Messages and attributes as octets. */
final class Wire {
    static final int REQUEST = 128;
    static final int PASSED = 64;
    static final int FAULT = 32;
    static final int AGAIN = 16;
    static final int MUST = 64;
    static final int OPENING = 257;
    static final int ASK = 258;
    static final int CREDIT = 272;
    static final int WATCH = 280;
    static final int ENDING = 282;

    private Wire() {
    }

    static byte[] join(byte[]... parts) {
        ByteArrayOutputStream all = new ByteArrayOutputStream();
        for (byte[] part : parts) {
            all.write(part, 0, part.length);
        }
        return all.toByteArray();
    }

    static byte[] word(long value) {
        return new byte[] {(byte) (value >>> 24), (byte) (value >>> 16), (byte) (value >>> 8), (byte) value};
    }

    static byte[] octets(int... values) {
        byte[] all = new byte[values.length];
        for (int i = 0; i < values.length; i++) {
            all[i] = (byte) values[i];
        }
        return all;
    }

    /** With a LENGTH that is told, and PADDING of a value that is told. */
    static byte[] attribute(long code, int flags, int length, byte[] data, int padding) {
        byte[] pad = new byte[-data.length & 3];
        java.util.Arrays.fill(pad, (byte) padding);
        return join(word(code), word((long) flags << 24 | length), data, pad);
    }

    static byte[] attribute(long code, int flags, byte[] data) {
        return attribute(code, flags, 8 + data.length, data, 0);
    }

    static byte[] text(int code, String text) {
        return attribute(code, MUST, text.getBytes(StandardCharsets.ISO_8859_1));
    }

    static byte[] number(int code, long value) {
        return attribute(code, MUST, word(value));
    }

    static byte[] units(long value) {
        return attribute(421, MUST, join(word(value >>> 32), word(value)));
    }

    static byte[] group(int code, byte[]... parts) {
        return attribute(code, MUST, join(parts));
    }

    static byte[] message(int version, int flags, int command, int application, long hop, long end, byte[]... parts) {
        byte[] body = join(parts);
        return join(word((long) version << 24 | 20 + body.length), word((long) flags << 24 | command),
                word(application), word(hop), word(end), body);
    }

    static byte[] request(int command, long hop, long end, byte[]... parts) {
        return message(1, REQUEST, command, command == CREDIT ? 4 : 0, hop, end, parts);
    }

    static byte[] origin(String host, String realm) {
        return join(text(264, host), text(296, realm));
    }

    static byte[] opening(String host, long hop, long end) {
        return request(OPENING, hop, end, origin(host, "r"), number(258, 4));
    }

    static byte[] watch(String host, long hop) {
        return request(WATCH, hop, hop, origin(host, "r"));
    }

    static byte[] ending(String host, long hop) {
        return request(ENDING, hop, hop, origin(host, "r"), number(273, 0));
    }

    /** A PEER's ANSWER. */
    static byte[] reply(int command, long hop, long result, String host) {
        return message(1, 0, command, 0, hop, hop, number(268, result), origin(host, "r"));
    }

    static byte[] introduction() {
        return join(attribute(257, MUST, octets(0, 1, 127, 0, 0, 1)), number(266, 0), text(269, "peer"), number(258, 4));
    }

    /** The NODE's ANSWER, with the HOST that it has at first. */
    static byte[] answer(int flags, int command, long hop, long end, long result, byte[]... more) {
        return message(1, flags, command, command == CREDIT ? 4 : 0, hop, end, number(268, result),
                origin("m.home", "home"), join(more));
    }

    static byte[] failed(long code) {
        return group(279, attribute(code, MUST, new byte[0]));
    }

    static byte[] subscriber(String who) {
        return group(443, text(444, who));
    }

    static byte[] wanted(long units) {
        return group(437, units(units));
    }

    static byte[] used(long units) {
        return group(446, units(units));
    }

    static byte[] credit(String session, long end, long type, long count, byte[]... more) {
        return request(CREDIT, end + 1000, end, text(263, session), origin("c.d", "e"), number(416, type),
                number(415, count), join(more));
    }

    /** The NODE's ANSWER to what credit() makes. */
    static byte[] creditAnswer(String session, long end, long result, long type, long count, byte[]... more) {
        return message(1, 0, CREDIT, 4, end + 1000, end, text(263, session), number(268, result),
                origin("m.home", "home"), number(258, 4), number(416, type), number(415, count), join(more));
    }

    static byte[] told(long grant) {
        return join(group(431, units(grant)), number(448, 600));
    }

    static String show(byte[] octets) {
        StringBuilder text = new StringBuilder();
        for (int i = 0; i < octets.length; i++) {
            text.append(i % 4 == 0 ? " " : "").append(String.format("%02x", octets[i]));
        }
        return octets.length + ":" + text;
    }
}
