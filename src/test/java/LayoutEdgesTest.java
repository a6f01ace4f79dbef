/** The edges of the terms: the smallest and largest numbers in a packet, where they wrap around, and the sum. */
public final class LayoutEdgesTest {
    private static final Due DUE = new Due();
    private static final int[] FRAME = Packets.frame(Packets.ALL, Packets.mac(2), 5, 1, 2, 3);

    public static void main(String[] args) {
        smallestAndLargestPackets();
        highestByteFirst();
        addressesAtBothEnds();
        numbersOverOneByte();
        numbersOfEachEndpoint();
        lowestAndHighestPort();
        portOfLargeMix();
        lowestAndHighestMixByte();
        lastByteAlone();
        sumThatIsZero();
        sumsWithCarries();
        bothZerosInTheIpSum();
        bothZerosInTheGreSum();
        DUE.end();
    }

    /** Endpoint 0 sends one packet to endpoint 1. */
    private static OverlayFabric sent(int way, int net, int mac, long to, int... bytes) {
        OverlayFabric x = new OverlayFabric();
        x.station(0, net, mac);
        x.station(1, net, 2);
        x.way(0, 1, way);
        Packets.feed(x, bytes);
        DUE.eq("send(0, " + to + ", 0x0405)", x.send(0, to, 0x0405), 1);
        return x;
    }

    private static void smallestAndLargestPackets() {
        DUE.says("A FRAME: 6 bytes to which MAC, 6 from which one, 2 of a type, then 0 .. 40 bytes.");
        int[] heads = {36, 28, 32};
        for (int way = 0; way <= 2; way++) {
            for (int bytes : new int[] {0, 1, 39, 40}) {
                OverlayFabric x = sent(way, 7, 1, Packets.ALL, new int[bytes]);
                int size = heads[way] + 14 + bytes;
                DUE.eq("size(0)", x.size(0), size);
                DUE.eq("packet(0, 2)", x.packet(0, 2), 0);
                DUE.eq("packet(0, 3)", x.packet(0, 3), size);
                DUE.eq("packet(0, last)", x.packet(0, size - 1), bytes == 0 ? 5 : 0);
                DUE.eq("packet(0, behind it)", x.packet(0, size), -1);
                DUE.eq("bytes told in UDP", x.packet(0, 25), way == 0 ? size - 20 : x.packet(0, 25));
                DUE.eq("deliver(0)", x.deliver(0), 0);
                DUE.eq("length(1, 0)", x.length(1, 0), 14 + bytes);
            }
        }
    }

    private static void highestByteFirst() {
        DUE.says("Numbers of several bytes have the highest byte first.");
        int[] netAt = {32, 24, 28};
        for (int way = 0; way <= 2; way++) {
            OverlayFabric x = sent(way, 0x010203, 0x11121314, 0x212223242526L);
            for (int i = 0; i < 3; i++) {
                DUE.eq("the net's byte " + i, x.packet(0, netAt[way] + i), 1 + i);
            }
            for (int i = 0; i < 6; i++) {
                DUE.eq("the MAC to, byte " + i, x.packet(0, netAt[way] + 4 + i), 0x21 + i);
            }
            for (int i = 0; i < 4; i++) {
                DUE.eq("the MAC from, byte " + (2 + i), x.packet(0, netAt[way] + 12 + i), 0x11 + i);
            }
            DUE.eq("the type's first byte", x.packet(0, netAt[way] + 16), 4);
            DUE.eq("the type's second byte", x.packet(0, netAt[way] + 17), 5);
        }
    }

    private static void addressesAtBothEnds() {
        DUE.says("endpoint e has the address 167772161 + e (10.0.0.1 and so on)");
        OverlayFabric x = new OverlayFabric();
        x.begin(8);
        for (int e = 0; e < 8; e++) {
            x.station(e, 7, e);
        }
        for (int from : new int[] {0, 7}) {
            x.send(from, Packets.ALL, 0);
            for (int i = 0; i < 7; i++) {
                int to = from == 0 ? i + 1 : i;
                int[] want = {10, 0, 0, 1 + from, 10, 0, 0, 1 + to};
                for (int b = 0; b < 8; b++) {
                    DUE.eq("from " + from + " to " + to + ", byte " + b, x.packet(0, 12 + b), want[b]);
                }
                DUE.eq("deliver(0)", x.deliver(0), 0);
                DUE.eq("knows(" + to + ", .., 2)", x.knows(to, x.known(to) - 1, 2), from);
            }
        }
    }

    private static void numbersOverOneByte() {
        DUE.says("2 of a number (how many packets the endpoint sent before, modulo 65536)");
        OverlayFabric x = new OverlayFabric();
        x.begin(8);
        for (int e = 0; e < 8; e++) {
            x.station(e, 7, e);
        }
        // Seven at once, and most are pushed out of the flight: they were sent all the same.
        for (int sent = 7; sent <= 74 * 7; sent += 7) {
            x.send(0, Packets.ALL, 0);
            int last = Math.min(sent, 50) - 1;
            DUE.eq("number " + (sent - 1) + ", high byte", x.packet(last, 4), (sent - 1) / 256);
            DUE.eq("number " + (sent - 1) + ", low byte", x.packet(last, 5), (sent - 1) % 256);
            if (sent == 37 * 7) {
                // The numbers 255 and 256, at both sides of the step.
                DUE.eq("number 255, high byte", x.packet(46, 4), 0);
                DUE.eq("number 255, low byte", x.packet(46, 5), 255);
                int[] frame = Packets.frame(Packets.ALL, Packets.mac(0), 0);
                DUE.packet(x, 47, Packets.udp(256, 0, 5, 7, frame));
                DUE.eq("twice(47)", x.twice(47), 0);
            }
        }
    }

    private static void numbersOfEachEndpoint() {
        DUE.says("a number (how many packets the endpoint sent before)");
        OverlayFabric x = new OverlayFabric();
        x.station(0, 7, 1);
        x.station(1, 7, 2);
        x.station(0, 8, 3);
        x.station(2, 8, 4);
        x.send(0, Packets.ALL, 0);
        x.lose(0);
        x.send(0, Packets.ALL, 0);
        x.deliver(0);
        // To whichever endpoint, in whichever net, lost or delivered: endpoint 0 sent two before.
        x.send(2, Packets.ALL, 0);
        DUE.eq("packet(0, 5)", x.packet(0, 5), 2);
        x.send(1, Packets.mac(9), 0);
        DUE.eq("packet(1, 5) from endpoint 1", x.packet(1, 5), 0);
        // A station that moved sends by its new endpoint's numbers, and twice is no sending.
        x.twice(0);
        x.move(1, 0);
        x.move(0, 1);
        x.send(1, Packets.ALL, 0);
        DUE.eq("packet(2, 5)", x.packet(2, 5), 3);
    }

    // H of the MACs 0 and 02:00:00:00:72:f4 is 57262080 = 3495 * 16384; the MAC before gives one less.
    private static void lowestAndHighestPort() {
        DUE.says("2 bytes 49152 + H modulo 16384");
        OverlayFabric lowest = sent(0, 7, 29428, 0);
        DUE.eq("packet(0, 20)", lowest.packet(0, 20), 192);
        DUE.eq("packet(0, 21)", lowest.packet(0, 21), 0);
        OverlayFabric highest = sent(0, 7, 29427, 0);
        DUE.eq("packet(0, 20)", highest.packet(0, 20), 255);
        DUE.eq("packet(0, 21)", highest.packet(0, 21), 255);
    }

    // H of the MACs fe:00:.. and 02:00:.. is 2779497856, above 2^31: 1408 modulo 16384, 128 modulo 256.
    private static void portOfLargeMix() {
        DUE.says("H: 0; for each of the frame's first 12 bytes: 31 times it and the byte (32 bits)");
        OverlayFabric udp = sent(0, 7, 0, 0xFE0000000000L);
        DUE.eq("packet(0, 20)", udp.packet(0, 20), (49152 + 1408) / 256);
        DUE.eq("packet(0, 21)", udp.packet(0, 21), 128);
        DUE.eq("packet(0, 27) of GRE", sent(1, 7, 0, 0xFE0000000000L).packet(0, 27), 128);
        DUE.eq("packet(0, 31) of GRE with a sum", sent(2, 7, 0, 0xFE0000000000L).packet(0, 31), 128);
        // Bytes from the 13th on are not in it.
        DUE.eq("packet(0, 21) with bytes", sent(0, 7, 0, 0xFE0000000000L, 9, 9).packet(0, 21), 128);
    }

    // H of the MACs 0 and 02:00:00:00:00:c2 is 57258496 = 223666 * 256; the MAC before gives one less.
    private static void lowestAndHighestMixByte() {
        DUE.says("the net (3 bytes), H modulo 256");
        DUE.eq("packet(0, 27)", sent(1, 7, 194, 0).packet(0, 27), 0);
        DUE.eq("packet(0, 27)", sent(1, 7, 193, 0).packet(0, 27), 255);
        DUE.eq("packet(0, 31) with a sum", sent(2, 7, 194, 0).packet(0, 31), 0);
        DUE.eq("packet(0, 31) with a sum", sent(2, 7, 193, 0).packet(0, 31), 255);
    }

    private static int greSum(int... bytes) {
        OverlayFabric x = sent(2, 7, 1, Packets.ALL, bytes);
        int sum = x.packet(0, 24) * 256 + x.packet(0, 25);
        DUE.eq("deliver(0)", x.deliver(0), 0);
        return sum;
    }

    private static void lastByteAlone() {
        DUE.says("THE SUM of bytes: pairs of them as numbers (a last one alone with 0 behind it) added up");
        int none = greSum();
        DUE.eq("the sum with 0", greSum(0), none);
        DUE.eq("the sum with 9 is that with 9, 0", greSum(9), greSum(9, 0));
        DUE.eq("9 as a high byte", none - greSum(9), 9 * 256);
        DUE.eq("9 as a low byte", none - greSum(0, 9), 9);
    }

    // All pairs but the last add up to 0x170f22: with it they are 0x17ffe7, e8, e9 and ff.
    private static void sumsWithCarries() {
        DUE.says("what is above 16 bits added to it, as long as there is any; all 16 bits turned over");
        int[] lasts = {197, 198, 199, 221};
        int[] sums = {0x0001, 0x0000, 0xFFFE, 0xFFE8};
        for (int i = 0; i < lasts.length; i++) {
            OverlayFabric x = new OverlayFabric();
            x.station(0, 7, 1);
            x.station(1, 7, 2);
            x.way(0, 1, 2);
            for (int b = 0; b < 38; b++) {
                x.feed(255);
            }
            Packets.feed(x, 240, lasts[i]);
            x.send(0, Packets.ALL, 0);
            DUE.eq("the sum with " + lasts[i], x.packet(0, 24) * 256 + x.packet(0, 25), sums[i]);
            DUE.eq("deliver(0)", x.deliver(0), 0);
        }
    }

    private static void sumThatIsZero() {
        DUE.says("all 16 bits turned over");
        // The IP part of these adds up to 0xfffe, 0xffff and 0x10000 by the packet's number.
        int[] numbers = {9909, 9910, 9911};
        int[] sums = {0x0001, 0x0000, 0xFFFE};
        for (int i = 0; i < numbers.length; i++) {
            int[] packet = Packets.udp(numbers[i], 1, 0, 7, FRAME);
            DUE.eq("number " + numbers[i], packet[10] * 256 + packet[11], sums[i]);
            DUE.eq("number " + numbers[i], arrive(packet), 0);
        }
    }

    /** A packet comes to endpoint 0, which has net 7 as endpoint 1 has it. */
    private static int arrive(int... packet) {
        OverlayFabric x = new OverlayFabric();
        x.station(0, 7, 1);
        x.station(1, 7, 2);
        return Packets.inject(x, 0, packet);
    }

    private static void bothZerosInTheIpSum() {
        DUE.says("2 the sum of its first 20 bytes is not 0");
        int[] packet = Packets.udp(9910, 1, 0, 7, FRAME);
        // Added up, 65535 does what 0 does.
        DUE.eq("255, 255 for 0, 0", arrive(Packets.with(packet, 10, 255, 11, 255)), 0);
        DUE.eq("255, 254 for 0, 0", arrive(Packets.with(packet, 10, 255, 11, 254)), 2);
        DUE.eq("0, 1 for 0, 0", arrive(Packets.with(packet, 10, 0, 11, 1)), 2);
    }

    private static void bothZerosInTheGreSum() {
        DUE.says("the sum of all from it on is not 0 (where there is one)");
        int[] packet = Packets.greWithSum(0, 1, 0, 7, Packets.frame(Packets.ALL, Packets.mac(2), 5, 0, 0));
        int sum = packet[24] * 256 + packet[25];
        // The last pair takes what the sum was, so that the sum becomes 0.
        int[] zero = Packets.sealGre(Packets.with(packet, packet.length - 2, sum >> 8, packet.length - 1, sum & 255));
        DUE.eq("the sum", zero[24] * 256 + zero[25], 0);
        DUE.eq("0, 0", arrive(zero), 0);
        DUE.eq("255, 255 for 0, 0", arrive(Packets.with(zero, 24, 255, 25, 255)), 0);
        DUE.eq("255, 254 for 0, 0", arrive(Packets.with(zero, 24, 255, 25, 254)), 5);
        DUE.eq("0, 1 for 0, 0", arrive(Packets.with(zero, 24, 0, 25, 1)), 5);
    }
}
