import java.util.Arrays;

/** The edges of what a packet that comes is looked at for: every clause, bit by bit where it names a number. */
public final class ArrivalEdgesTest {
    private static final Due DUE = new Due();
    private static final int[] FRAME = Packets.frame(Packets.ALL, Packets.mac(2), 5, 1, 2, 3);
    private static final int[] UDP = Packets.udp(9, 1, 0, 7, FRAME);
    private static final int[] GRE = Packets.gre(9, 1, 0, 7, FRAME);
    private static final int[] SUMMED = Packets.greWithSum(9, 1, 0, 7, FRAME);

    public static void main(String[] args) {
        fewerThanTwentyBytes();
        asManyBytesAsTold();
        sumOfTheFirstTwenty();
        addressTo();
        bytesSixAndSeven();
        whatFollows();
        udpNumberOfBytes();
        udpFields();
        udpBitEight();
        greNumberOfBytes();
        greFields();
        greSumOfAll();
        netThatTheEndpointHas();
        addressFrom();
        addressFromBeyondTheLast();
        macFromOdd();
        macToOdd();
        knownElsewhere();
        knownButMovedAway();
        firstThatHolds();
        DUE.end();
    }

    /** Net 7 at the endpoints 0, 1 and 2, net 8 at 3 alone; MAC 4 of net 7 is known at endpoint 2. */
    private static OverlayFabric fabric() {
        OverlayFabric x = new OverlayFabric();
        x.station(0, 7, 1);
        x.station(0, 7, 11);
        x.station(1, 7, 2);
        x.station(2, 7, 4);
        x.station(3, 8, 5);
        x.send(3, Packets.ALL, 0);
        x.deliver(0);
        x.lose(0);
        return x;
    }

    /** It is told and counted once; what is dropped for 1 to 8 teaches nothing and comes to nobody. */
    private static void expect(String what, int why, int... packet) {
        OverlayFabric x = fabric();
        DUE.eq(what, Packets.inject(x, 0, packet), why);
        for (int c = 1; c <= 9; c++) {
            DUE.eq(what + ": count(" + c + ")", x.count(c), c == why ? 1 : 0);
        }
        DUE.eq(what + ": known(0)", x.known(0), why == 0 || why == 9 ? 2 : 1);
        DUE.eq(what + ": got(0)", x.got(0), why == 0 ? 2 : 1);
        DUE.eq(what + ": got(1)", x.got(1), why == 0 ? 2 : 1);
    }

    private static int[] sealed(int[] packet, int... placesAndBytes) {
        return Packets.sealIp(Packets.with(packet, placesAndBytes));
    }

    private static int[] flipped(int[] packet, int k, int bit) {
        return Packets.with(packet, k, packet[k] ^ 1 << bit);
    }

    private static void fewerThanTwentyBytes() {
        DUE.says("1 it has fewer than 20 bytes");
        for (int size = 0; size <= 20; size++) {
            int[] packet = Arrays.copyOf(UDP, size);
            if (size > 3) {
                packet[3] = size;
            }
            if (size > 11) {
                packet[10] = 0;
                packet[11] = 0;
                int sum = Packets.sum(packet, 0, size);
                packet[10] = sum / 256;
                packet[11] = sum % 256;
            }
            // With 20 it is whole, but nothing follows.
            expect(size + " bytes", size < 20 ? 1 : 5, packet);
        }
    }

    private static void asManyBytesAsTold() {
        DUE.says("1 does not begin with 69, or has not as many bytes as told");
        for (int first = 0; first < 256; first++) {
            expect("first byte " + first, first == 69 ? 0 : 1, sealed(GRE, 0, first));
        }
        for (int told = 0; told < 256; told++) {
            expect(told + " bytes told", told == GRE.length ? 0 : 1, sealed(GRE, 3, told));
        }
        for (int bit = 0; bit < 8; bit++) {
            expect("told " + (256 << bit) + " more", 1, sealed(GRE, 2, 1 << bit));
        }
    }

    private static void sumOfTheFirstTwenty() {
        DUE.says("2 the sum of its first 20 bytes is not 0");
        for (int k = 0; k < 20; k++) {
            for (int bit = 0; bit < 8; bit++) {
                boolean earlier = k == 0 || k == 2 || k == 3;
                expect("byte " + k + ", bit " + bit, earlier ? 1 : 2, flipped(UDP, k, bit));
            }
        }
        // The bytes from the 21st on are not in it.
        expect("byte 20", 0, flipped(UDP, 20, 0));
    }

    private static void addressTo() {
        DUE.says("3 the address to is not the endpoint's");
        for (int bit = 0; bit < 32; bit++) {
            expect("bit " + bit, 3, Packets.sealIp(flipped(UDP, 19 - bit / 8, bit % 8)));
        }
        for (int to = -1; to <= 4; to++) {
            expect("to endpoint " + to, to == 0 ? 0 : 3, Packets.udp(9, 1, to, 7, FRAME));
        }
        OverlayFabric x = new OverlayFabric();
        x.begin(8);
        x.station(7, 7, 1);
        x.station(6, 7, 2);
        DUE.eq("inject(7) to 7", Packets.inject(x, 7, Packets.udp(9, 6, 7, 7, FRAME)), 0);
        DUE.eq("inject(6) to 7", Packets.inject(x, 6, Packets.udp(9, 6, 7, 7, FRAME)), 3);
        DUE.eq("inject(7) to 8", Packets.inject(x, 7, Packets.udp(9, 6, 8, 7, FRAME)), 3);
    }

    private static void bytesSixAndSeven() {
        DUE.says("4 the bytes 6 and 7 are other than 64 and 0 or 0 and 0");
        for (int b = 0; b < 256; b++) {
            expect(b + " and 0", b == 64 || b == 0 ? 0 : 4, sealed(UDP, 6, b, 7, 0));
            expect("64 and " + b, b == 0 ? 0 : 4, sealed(UDP, 6, 64, 7, b));
            expect("0 and " + b, b == 0 ? 0 : 4, sealed(UDP, 6, 0, 7, b));
        }
    }

    private static void whatFollows() {
        DUE.says("5 what follows is neither");
        for (int follows = 0; follows < 256; follows++) {
            expect(follows + " before UDP", follows == 17 ? 0 : 5, sealed(UDP, 9, follows));
            expect(follows + " before GRE", follows == 47 ? 0 : 5, sealed(GRE, 9, follows));
        }
    }

    private static void udpNumberOfBytes() {
        DUE.says("UDP: fewer than 30 bytes more, another number of them told");
        for (int more = 0; more <= 33; more++) {
            int[] packet = Packets.cut(UDP, 20 + more);
            if (more > 5) {
                packet[24] = 0;
                packet[25] = more;
            }
            expect("UDP, " + more + " bytes more", more < 30 ? 5 : 0, packet);
        }
        for (int told = 0; told < 256; told++) {
            expect(told + " told", told == UDP.length - 20 ? 0 : 5, Packets.with(UDP, 25, told));
        }
        for (int bit = 0; bit < 8; bit++) {
            expect((256 << bit) + " more told", 5, Packets.with(UDP, 24, 1 << bit));
        }
    }

    private static void udpFields() {
        DUE.says("UDP: not 4789, its bytes 6 and 7 not 0");
        for (int k : new int[] {22, 23, 26, 27}) {
            for (int bit = 0; bit < 8; bit++) {
                expect("byte " + k + ", bit " + bit, 5, flipped(UDP, k, bit));
            }
        }
        // What the clauses do not name is not looked at.
        for (int k : new int[] {20, 21, 29, 30, 31, 35}) {
            expect("byte " + k + " turned over", 0, Packets.with(UDP, k, 255 - UDP[k]));
        }
    }

    private static void udpBitEight() {
        DUE.says("UDP: its byte 8 without the bit 8");
        for (int b = 0; b < 256; b++) {
            expect("byte 8 = " + b, (b & 8) != 0 ? 0 : 5, Packets.with(UDP, 28, b));
        }
    }

    private static void greNumberOfBytes() {
        DUE.says("GRE: fewer than 22 bytes (26) more");
        for (int more = 0; more <= 25; more++) {
            expect("GRE, " + more + " bytes more", more < 22 ? 5 : 0, Packets.cut(GRE, 20 + more));
        }
        for (int more = 0; more <= 29; more++) {
            int[] packet = Packets.cut(SUMMED, 20 + more);
            expect("GRE with a sum, " + more + " bytes more", more < 26 ? 5 : 0,
                more > 5 ? Packets.sealGre(packet) : packet);
        }
    }

    private static void greFields() {
        DUE.says("GRE: its first number is neither, the second is another one");
        for (int k = 20; k < 24; k++) {
            for (int bit = 0; bit < 8; bit++) {
                expect("GRE, byte " + k + ", bit " + bit, 5, flipped(GRE, k, bit));
                // Without the highest bit it is one without a sum, and the net is read from other bytes.
                int why = k == 20 && bit == 7 ? 6 : 5;
                expect("GRE with a sum, byte " + k + ", bit " + bit, why, Packets.sealGre(flipped(SUMMED, k, bit)));
            }
        }
        expect("GRE, byte 27 turned over", 0, Packets.with(GRE, 27, 255 - GRE[27]));
        for (int k : new int[] {26, 27, 31}) {
            int[] packet = Packets.sealGre(Packets.with(SUMMED, k, 255 - SUMMED[k]));
            expect("GRE with a sum, byte " + k + " turned over", 0, packet);
        }
    }

    private static void greSumOfAll() {
        DUE.says("GRE: the sum of all from it on is not 0 (where there is one)");
        for (int k = 21; k < SUMMED.length; k++) {
            for (int bit = 0; bit < 8; bit++) {
                expect("byte " + k + ", bit " + bit, 5, flipped(SUMMED, k, bit));
            }
        }
        // Neither the IP part is in it, nor has GRE without a sum one.
        expect("another number", 0, sealed(SUMMED, 4, 77));
        expect("GRE, another last byte", 0, flipped(GRE, GRE.length - 1, 0));
    }

    private static void netThatTheEndpointHas() {
        DUE.says("6 the endpoint has not that net");
        for (int bit = 0; bit < 24; bit++) {
            int net = 7 ^ 1 << bit;
            expect("UDP, net " + net, 6, Packets.udp(9, 1, 0, net, FRAME));
            expect("GRE, net " + net, 6, Packets.gre(9, 1, 0, net, FRAME));
            expect("GRE with a sum, net " + net, 6, Packets.greWithSum(9, 1, 0, net, FRAME));
        }
        // Net 8 is at endpoint 3, which does not help endpoint 0.
        expect("net 8 from endpoint 3", 6, Packets.udp(9, 3, 0, 8, FRAME));
        OverlayFabric x = fabric();
        x.move(0, 3);
        DUE.eq("one of two moved away", Packets.inject(x, 0, UDP), 0);
        x.move(1, 3);
        DUE.eq("both moved away", Packets.inject(x, 0, UDP), 6);
    }

    private static void addressFrom() {
        DUE.says("7 the address from is not another endpoint's that has that net");
        int[] whys = {7, 7, 0, 0, 7, 7, 7};
        for (int from = -1; from <= 5; from++) {
            expect("from endpoint " + from, whys[from + 1], Packets.udp(9, from, 0, 7, FRAME));
        }
        for (int bit = 0; bit < 32; bit++) {
            // 10.0.0.2 becomes 10.0.0.3, endpoint 2, by its lowest bit.
            expect("bit " + bit, bit == 0 ? 0 : 7, Packets.sealIp(flipped(UDP, 15 - bit / 8, bit % 8)));
        }
        OverlayFabric x = fabric();
        x.move(2, 3);
        DUE.eq("from an endpoint that lost the net", Packets.inject(x, 0, UDP), 7);
        DUE.eq("from the one that has it by now", Packets.inject(x, 0, Packets.udp(9, 3, 0, 7, FRAME)), 0);
        DUE.eq("knows(0, 1, 2)", x.knows(0, 1, 2), 3);
    }

    private static void addressFromBeyondTheLast() {
        DUE.says("7 the address from is not another endpoint's that has that net");
        OverlayFabric x = new OverlayFabric();
        x.begin(8);
        x.station(7, 7, 2);
        x.station(0, 7, 1);
        DUE.eq("from 7 of 8", Packets.inject(x, 0, Packets.udp(9, 7, 0, 7, FRAME)), 0);
        x.begin(7);
        x.station(6, 7, 2);
        x.station(0, 7, 1);
        DUE.eq("from 7 of 7", Packets.inject(x, 0, Packets.udp(9, 7, 0, 7, FRAME)), 7);
        DUE.eq("from 6 of 7", Packets.inject(x, 0, Packets.udp(9, 6, 0, 7, FRAME)), 0);
    }

    private static void macFromOdd() {
        DUE.says("8 the MAC from is odd in its first byte. Else the MAC from is learnt, at that other endpoint.");
        for (int first = 0; first < 256; first++) {
            long from = ((long) first << 40) + 0x0101010101L;
            int why = first % 2 == 1 ? 8 : 0;
            int[] frame = Packets.frame(Packets.ALL, from, 5);
            expect("UDP, MAC from " + from, why, Packets.udp(9, 1, 0, 7, frame));
            expect("GRE, MAC from " + from, why, Packets.gre(9, 1, 0, 7, frame));
            expect("GRE with a sum, MAC from " + from, why, Packets.greWithSum(9, 1, 0, 7, frame));
        }
        OverlayFabric x = fabric();
        int[] frame = Packets.frame(Packets.ALL, 0xFEFFFFFFFFFFL, 5);
        DUE.eq("inject(0)", Packets.inject(x, 0, Packets.udp(9, 2, 0, 7, frame)), 0);
        DUE.knows(x, 0, 1, 7, 0xFEFFFFFFFFFFL, 2, -1, 0);
        DUE.eq("inject(0) from MAC 0", Packets.inject(x, 0, Packets.udp(9, 1, 0, 7, Packets.frame(1, 0, 5))), 0);
        DUE.knows(x, 0, 2, 7, 0, 1, -1, 0);
    }

    private static void macToOdd() {
        DUE.says("if the MAC to is odd in its first byte, or not known: the frame comes to all");
        for (int first = 0; first < 256; first++) {
            // All that are even are known at endpoint 2 by a frame that came before.
            OverlayFabric x = fabric();
            long mac = ((long) first << 40) + 9;
            Packets.inject(x, 0, Packets.gre(9, 2, 0, 7, Packets.frame(Packets.ALL, mac, 5)));
            int before = x.got(0);
            int[] packet = Packets.gre(9, 1, 0, 7, Packets.frame(mac, Packets.mac(2), 5));
            DUE.eq("MAC to " + mac, Packets.inject(x, 0, packet), first % 2 == 1 ? 0 : 9);
            DUE.eq("got(0)", x.got(0) - before, first % 2);
            DUE.eq("got(1)", x.got(1) - before, first % 2);
            // What is not known goes to all, be it even.
            x.forget(0);
            DUE.eq("MAC to " + mac + ", forgotten", Packets.inject(x, 0, packet), 0);
            DUE.eq("got(0)", x.got(0) - before, first % 2 + 1);
            DUE.eq("got(2)", x.got(2), 0);
        }
    }

    private static void knownElsewhere() {
        DUE.says("at another endpoint: 9 it is dropped");
        int[] frame = Packets.frame(Packets.mac(4), Packets.mac(2), 5);
        expect("UDP", 9, Packets.udp(9, 1, 0, 7, frame));
        expect("GRE", 9, Packets.gre(9, 1, 0, 7, frame));
        expect("GRE with a sum", 9, Packets.greWithSum(9, 1, 0, 7, frame));
        // Also from the very endpoint where it is, and the MAC from is learnt all the same.
        expect("from endpoint 2", 9, Packets.udp(9, 2, 0, 7, frame));
        OverlayFabric x = fabric();
        DUE.eq("inject(0)", Packets.inject(x, 0, Packets.udp(9, 1, 0, 7, frame)), 9);
        DUE.knows(x, 0, 1, 7, Packets.mac(2), 1, -1, 0);
        DUE.eq("count(11)", x.count(11), 3);
        // Too old it is known no more, so that the same frame comes to all.
        x.tick(301);
        DUE.eq("inject(0)", Packets.inject(x, 0, Packets.udp(9, 1, 0, 7, frame)), 0);
        DUE.eq("got(0)", x.got(0), 2);
    }

    private static void knownButMovedAway() {
        DUE.says("at a station there: to that alone (if it is there still)");
        OverlayFabric x = fabric();
        x.send(0, Packets.mac(1), 0);
        int[] packet = Packets.udp(9, 1, 0, 7, Packets.frame(Packets.mac(1), Packets.mac(2), 5));
        DUE.eq("there", Packets.inject(x, 0, packet), 0);
        DUE.eq("got(0)", x.got(0), 2);
        x.move(0, 1);
        DUE.eq("away", Packets.inject(x, 0, packet), 0);
        DUE.eq("got(0)", x.got(0), 2);
        x.move(0, 0);
        DUE.eq("back", Packets.inject(x, 0, packet), 0);
        DUE.eq("got(0)", x.got(0), 3);
        DUE.eq("got(1)", x.got(1), 1);
        for (int c = 1; c <= 9; c++) {
            DUE.eq("count(" + c + ")", x.count(c), 0);
        }
    }

    /** Each set of the nine causes at once: the least of them is told. */
    private static void firstThatHolds() {
        DUE.says("it is dropped, for the first that holds");
        for (int causes = 1; causes < 512; causes++) {
            int first = 1 + Integer.numberOfTrailingZeros(causes);
            expect("UDP with causes " + causes, first, faulty(causes, UDP, 36));
            expect("GRE with causes " + causes, first, faulty(causes, GRE, 28));
            expect("GRE with a sum, causes " + causes, first, faulty(causes, SUMMED, 32));
        }
    }

    private static int[] faulty(int causes, int[] good, int frameAt) {
        int[] packet = good.clone();
        packet[0] += bit(causes, 1);
        packet[19] += bit(causes, 3);
        packet[6] += bit(causes, 4);
        packet[frameAt - 2] += bit(causes, 6);
        packet[15] = bit(causes, 7) == 1 ? 1 : packet[15];
        packet[frameAt + 6] += bit(causes, 8);
        if (bit(causes, 9) == 1) {
            System.arraycopy(Packets.frame(Packets.mac(4), 0, 0), 0, packet, frameAt, 6);
        }
        if (frameAt == 32) {
            packet = Packets.sealGre(packet);
        }
        packet[frameAt == 36 ? 27 : frameAt == 28 ? 22 : 25] ^= bit(causes, 5);
        packet = Packets.sealIp(packet);
        packet[11] ^= bit(causes, 2);
        return packet;
    }

    private static int bit(int causes, int cause) {
        return causes >> cause - 1 & 1;
    }
}
