import java.io.ByteArrayOutputStream;
import java.util.Arrays;

/** Frames and packets, made from the document without the class under test. */
final class Packets {
    static final long ADDRESS = 167772161L;
    static final long ALL = 281474976710655L;

    private Packets() {
    }

    /** The MAC of a station: 2, 0, and four bytes. */
    static long mac(int four) {
        return 2199023255552L + (four & 4294967295L);
    }

    static int[] frame(long to, long from, int type, int... rest) {
        ByteArrayOutputStream out = new ByteArrayOutputStream();
        number(out, to, 6);
        number(out, from, 6);
        number(out, type, 2);
        put(out, rest);
        return ints(out);
    }

    static int[] udp(int number, int from, int to, int net, int[] frame) {
        ByteArrayOutputStream out = new ByteArrayOutputStream();
        ip(out, 36 + frame.length, number, 17, from, to);
        number(out, 49152 + mix(frame) % 16384, 2);
        number(out, 4789, 2);
        number(out, 16 + frame.length, 2);
        put(out, 0, 0, 8, 0, 0, 0);
        number(out, net, 3);
        put(out, 0);
        put(out, frame);
        return sealIp(ints(out));
    }

    static int[] gre(int number, int from, int to, int net, int[] frame) {
        ByteArrayOutputStream out = new ByteArrayOutputStream();
        ip(out, 28 + frame.length, number, 47, from, to);
        put(out, 0x20, 0x00, 0x65, 0x58);
        number(out, net, 3);
        number(out, mix(frame) % 256, 1);
        put(out, frame);
        return sealIp(ints(out));
    }

    static int[] greWithSum(int number, int from, int to, int net, int[] frame) {
        ByteArrayOutputStream out = new ByteArrayOutputStream();
        ip(out, 32 + frame.length, number, 47, from, to);
        put(out, 0xA0, 0x00, 0x65, 0x58, 0, 0, 0, 0);
        number(out, net, 3);
        number(out, mix(frame) % 256, 1);
        put(out, frame);
        return sealGre(sealIp(ints(out)));
    }

    private static void ip(ByteArrayOutputStream out, int size, int number, int follows, int from, int to) {
        put(out, 69, 0);
        number(out, size, 2);
        number(out, number, 2);
        put(out, 64, 0, 64, follows, 0, 0);
        number(out, ADDRESS + from, 4);
        number(out, ADDRESS + to, 4);
    }

    /** The same with some bytes set: pairs of a place and a byte. */
    static int[] with(int[] packet, int... placesAndBytes) {
        int[] other = packet.clone();
        for (int i = 0; i < placesAndBytes.length; i += 2) {
            other[placesAndBytes[i]] = placesAndBytes[i + 1];
        }
        return other;
    }

    /** The same with another number of bytes, which it tells in its IP part. */
    static int[] cut(int[] packet, int size) {
        return sealIp(with(Arrays.copyOf(packet, size), 2, size >> 8, 3, size & 255));
    }

    static int[] sealIp(int[] packet) {
        return seal(packet, 0, 20, 10);
    }

    static int[] sealGre(int[] packet) {
        return seal(packet, 20, packet.length, 24);
    }

    private static int[] seal(int[] packet, int from, int to, int place) {
        int[] open = with(packet, place, 0, place + 1, 0);
        int sum = sum(open, from, to);
        return with(open, place, sum / 256, place + 1, sum % 256);
    }

    static int sum(int[] packet, int from, int to) {
        long sum = 0;
        for (int i = from; i < to; i++) {
            sum += (i - from) % 2 == 0 ? 256L * packet[i] : packet[i];
        }
        // Addition with what is above 16 bits added again is addition modulo 65535, with 65535 for what is not 0.
        return (int) (65535 - (sum == 0 ? 0 : (sum - 1) % 65535 + 1));
    }

    private static long mix(int[] frame) {
        long mix = 0;
        for (int i = 0; i < 12; i++) {
            mix = (31 * mix + frame[i]) % 4294967296L;
        }
        return mix;
    }

    private static void number(ByteArrayOutputStream out, long value, int bytes) {
        for (int b = bytes - 1; b >= 0; b--) {
            out.write((int) (value >> 8 * b));
        }
    }

    private static void put(ByteArrayOutputStream out, int... bytes) {
        for (int b : bytes) {
            out.write(b);
        }
    }

    private static int[] ints(ByteArrayOutputStream out) {
        byte[] bytes = out.toByteArray();
        int[] ints = new int[bytes.length];
        for (int i = 0; i < ints.length; i++) {
            ints[i] = bytes[i] & 255;
        }
        return ints;
    }

    static void feed(OverlayFabric x, int... bytes) {
        for (int b : bytes) {
            x.feed(b);
        }
    }

    static int inject(OverlayFabric x, int endpoint, int... packet) {
        feed(x, packet);
        return x.inject(endpoint);
    }
}
