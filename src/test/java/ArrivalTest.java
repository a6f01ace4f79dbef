import java.util.Arrays;

/** Promises 8, 9 and 11: deliver, twice and inject, and what a packet is looked at for. */
public final class ArrivalTest {
    private static final Due DUE = new Due();
    private static final int[] FRAME = Packets.frame(Packets.ALL, Packets.mac(2), 5, 1, 2, 3);
    private static final int[] UDP = Packets.udp(9, 1, 0, 7, FRAME);
    private static final int[] GRE = Packets.gre(9, 1, 0, 7, FRAME);
    private static final int[] SUMMED = Packets.greWithSum(9, 1, 0, 7, FRAME);

    public static void main(String[] args) {
        noneSuch();
        letIn();
        reasonOne();
        reasonsTwoToFour();
        reasonFive();
        reasonFiveUdp();
        reasonFiveGre();
        reasonsSixToEight();
        firstReasonCounts();
        whereItComes();
        learnsBeforeItLooks();
        deliverAndTwice();
        DUE.end();
    }

    /** Stations 0 and 1 of net 7 at endpoint 0, 2 of net 7 at 1, 3 of net 8 at 2, 4 of net 9 at 0. */
    private static OverlayFabric fabric() {
        OverlayFabric x = new OverlayFabric();
        x.station(0, 7, 1);
        x.station(0, 7, 11);
        x.station(1, 7, 2);
        x.station(2, 8, 3);
        x.station(0, 9, 4);
        return x;
    }

    private static void expect(String what, int why, int... packet) {
        OverlayFabric x = fabric();
        DUE.eq(what, Packets.inject(x, 0, packet), why);
        for (int c = 1; c <= 9; c++) {
            DUE.eq(what + ": count(" + c + ")", x.count(c), c == why ? 1 : 0);
        }
        DUE.eq(what + ": known(0)", x.known(0), why == 0 || why == 9 ? 1 : 0);
        DUE.eq(what + ": got(0)", x.got(0), why == 0 ? 1 : 0);
        DUE.eq(what + ": the tape behind it", x.inject(0), 1);
        DUE.eq(what + ": count(0)", x.count(0), 0);
    }

    private static void noneSuch() {
        OverlayFabric x = fabric();
        for (int i : new int[] {-1, 0, 1, Integer.MIN_VALUE, Integer.MAX_VALUE}) {
            DUE.eq("deliver(" + i + ")", x.deliver(i), -1);
            DUE.eq("twice(" + i + ")", x.twice(i), -1);
        }
        x.send(0, Packets.ALL, 0);
        DUE.eq("deliver(1)", x.deliver(1), -1);
        DUE.eq("twice(1)", x.twice(1), -1);
        DUE.eq("deliver(-1)", x.deliver(-1), -1);
        DUE.eq("flying()", x.flying(), 1);
        DUE.eq("inject(-1)", x.inject(-1), -1);
        DUE.eq("inject(4)", x.inject(4), -1);
        for (int c = 1; c <= 10; c++) {
            DUE.eq("count(" + c + ")", x.count(c), 0);
        }
    }

    private static void letIn() {
        expect("UDP", 0, UDP);
        expect("GRE", 0, GRE);
        expect("GRE with a sum", 0, SUMMED);
        expect("GRE with a sum over an even number", 0,
            Packets.greWithSum(9, 1, 0, 7, Packets.frame(Packets.ALL, Packets.mac(2), 5, 1, 2)));
        // What is not looked at may be anything.
        expect("UDP, 0 and 0 at 6", 0, Packets.sealIp(Packets.with(UDP, 6, 0)));
        expect("UDP, other bytes at 1, 4, 5 and 8", 0, Packets.sealIp(Packets.with(UDP, 1, 3, 4, 9, 5, 9, 8, 1)));
        expect("UDP from another port", 0, Packets.with(UDP, 20, 0, 21, 0));
        expect("UDP, all bits beside the bit 8", 0, Packets.with(UDP, 28, 255, 29, 1, 30, 1, 31, 1, 35, 1));
        expect("GRE with another H", 0, Packets.with(GRE, 27, GRE[27] ^ 255));
        expect("GRE with a sum, other bytes at 6, 7", 0, Packets.sealGre(Packets.with(SUMMED, 26, 1, 27, 1)));
        expect("the shortest UDP", 0, Packets.udp(0, 1, 0, 7, Packets.frame(Packets.ALL, 4, 0)));
        expect("the shortest GRE", 0, Packets.gre(0, 1, 0, 7, Packets.frame(Packets.ALL, 4, 0)));
        expect("the shortest GRE with a sum", 0, Packets.greWithSum(0, 1, 0, 7, Packets.frame(Packets.ALL, 4, 0)));
    }

    private static void reasonOne() {
        expect("nothing", 1);
        expect("19 bytes", 1, Arrays.copyOf(UDP, 19));
        expect("19 bytes told", 1, Packets.with(Arrays.copyOf(UDP, 19), 3, 19));
        expect("not 69", 1, Packets.sealIp(Packets.with(UDP, 0, 70)));
        expect("one byte too few", 1, Arrays.copyOf(UDP, UDP.length - 1));
        expect("one byte too many", 1, Arrays.copyOf(UDP, UDP.length + 1));
        expect("256 too many told", 1, Packets.sealIp(Packets.with(UDP, 2, 1)));
    }

    private static void reasonsTwoToFour() {
        expect("wrong sum", 2, Packets.with(UDP, 11, UDP[11] ^ 1));
        expect("wrong byte under the sum", 2, Packets.with(UDP, 1, 1));
        expect("wrong byte in the address to", 2, Packets.with(UDP, 19, 2));
        expect("to endpoint 1", 3, Packets.sealIp(Packets.with(UDP, 19, 2)));
        expect("to 11.0.0.1", 3, Packets.sealIp(Packets.with(UDP, 16, 11)));
        expect("to 10.1.0.1", 3, Packets.sealIp(Packets.with(UDP, 17, 1)));
        expect("to 10.0.1.1", 3, Packets.sealIp(Packets.with(UDP, 18, 1)));
        for (int flags : new int[] {32, 1, 128, 96, 65, 192}) {
            expect(flags + " at 6", 4, Packets.sealIp(Packets.with(UDP, 6, flags)));
        }
        expect("64 and 1", 4, Packets.sealIp(Packets.with(UDP, 7, 1)));
        expect("0 and 64", 4, Packets.sealIp(Packets.with(UDP, 6, 0, 7, 64)));
    }

    private static void reasonFive() {
        for (int follows : new int[] {0, 1, 6, 16, 18, 46, 48, 255}) {
            expect(follows + " follows UDP's IP", 5, Packets.sealIp(Packets.with(UDP, 9, follows)));
            expect(follows + " follows GRE's IP", 5, Packets.sealIp(Packets.with(GRE, 9, follows)));
        }
        expect("UDP taken for GRE", 5, Packets.sealIp(Packets.with(UDP, 9, 47)));
        expect("GRE taken for UDP", 5, Packets.sealIp(Packets.with(GRE, 9, 17)));
        for (int size = 20; size < 29; size++) {
            expect("UDP of " + size, 5, Packets.cut(UDP, size));
            expect("GRE of " + size, 5, Packets.cut(GRE, size));
            expect("GRE with a sum of " + size, 5, Packets.cut(SUMMED, size));
            expect(size + " bytes of neither", 5, Packets.sealIp(Packets.with(Packets.cut(GRE, size), 9, 3)));
        }
    }

    private static void reasonFiveUdp() {
        expect("UDP, 29 bytes more", 5, Packets.with(Packets.cut(UDP, 49), 25, 29));
        expect("UDP, 30 bytes more", 0, Packets.with(Packets.cut(UDP, 50), 25, 30));
        expect("UDP, one more told", 5, Packets.with(UDP, 25, UDP[25] + 1));
        expect("UDP, one less told", 5, Packets.with(UDP, 25, UDP[25] - 1));
        expect("UDP, 256 more told", 5, Packets.with(UDP, 24, 1));
        expect("UDP, to port 4788", 5, Packets.with(UDP, 23, UDP[23] - 1));
        expect("UDP, to port 4789 + 256", 5, Packets.with(UDP, 22, UDP[22] + 1));
        expect("UDP, 1 and 0", 5, Packets.with(UDP, 26, 1));
        expect("UDP, 0 and 1", 5, Packets.with(UDP, 27, 1));
        expect("UDP without the bit 8", 5, Packets.with(UDP, 28, 0));
        expect("UDP with all other bits", 5, Packets.with(UDP, 28, 247));
    }

    private static void reasonFiveGre() {
        expect("GRE, 21 bytes more", 5, Packets.cut(GRE, 41));
        expect("GRE, 22 bytes more", 0, Packets.cut(GRE, 42));
        expect("GRE with a sum, 25 bytes more", 5, Packets.sealGre(Packets.cut(SUMMED, 45)));
        expect("GRE with a sum, 26 bytes more", 0, Packets.sealGre(Packets.cut(SUMMED, 46)));
        for (int first : new int[] {0, 16, 33, 48, 96, 128, 161, 255}) {
            expect("GRE of " + first, 5, Packets.with(GRE, 20, first));
        }
        expect("GRE of 32 and 1", 5, Packets.with(GRE, 21, 1));
        expect("GRE of 160 and 1", 5, Packets.sealGre(Packets.with(SUMMED, 21, 1)));
        expect("GRE of 101 and 89", 5, Packets.with(GRE, 23, 89));
        expect("GRE of 100 and 88", 5, Packets.with(GRE, 22, 100));
        expect("GRE with a sum, of 100 and 88", 5, Packets.sealGre(Packets.with(SUMMED, 22, 100)));
        expect("GRE with a wrong sum", 5, Packets.with(SUMMED, 25, SUMMED[25] ^ 1));
        expect("GRE with a sum, another last byte", 5, Packets.with(SUMMED, SUMMED.length - 1, 99));
        expect("GRE with a sum, another first byte", 5, Packets.with(SUMMED, 31, SUMMED[31] ^ 1));
    }

    private static void reasonsSixToEight() {
        expect("a net that none has", 6, Packets.udp(0, 1, 0, 6, FRAME));
        expect("a net of another endpoint", 6, Packets.gre(0, 1, 0, 8, FRAME));
        expect("net 7 + 65536", 6, Packets.greWithSum(0, 1, 0, 65543, FRAME));
        expect("net 7 + 256", 6, Packets.udp(0, 1, 0, 263, FRAME));
        expect("from itself", 7, Packets.udp(0, 0, 0, 7, FRAME));
        expect("from an endpoint without the net", 7, Packets.gre(0, 2, 0, 7, FRAME));
        expect("net 9, which is here alone", 7, Packets.gre(0, 1, 0, 9, FRAME));
        expect("from endpoint 4, which there is none", 7, Packets.udp(0, 4, 0, 7, FRAME));
        expect("from 10.0.0.0", 7, Packets.udp(0, -1, 0, 7, FRAME));
        expect("from 138.0.0.2", 7, Packets.sealIp(Packets.with(UDP, 12, 138)));
        expect("from 10.0.1.2", 7, Packets.sealIp(Packets.with(UDP, 14, 1)));
        expect("MAC from odd", 8, Packets.udp(0, 1, 0, 7, Packets.frame(Packets.ALL, 0x010000000000L, 0)));
        expect("MAC from 3", 8, Packets.gre(0, 1, 0, 7, Packets.frame(Packets.mac(1), 0x030000000002L, 0)));
        expect("MAC from odd elsewhere", 0, Packets.gre(0, 1, 0, 7, Packets.frame(Packets.ALL, 0x040101010101L, 0)));
        expect("MAC to itself", 9, Packets.udp(0, 1, 0, 7, Packets.frame(Packets.mac(2), Packets.mac(2), 0)));
    }

    /** Each packet has a later fault, too, which must not be told. */
    private static void firstReasonCounts() {
        expect("1 before 2", 1, Packets.with(UDP, 0, 70));
        expect("2 before 3", 2, Packets.with(UDP, 19, 3));
        expect("2 before 4", 2, Packets.with(UDP, 6, 1));
        expect("3 before 4", 3, Packets.sealIp(Packets.with(UDP, 19, 3, 6, 1)));
        expect("4 before 5", 4, Packets.sealIp(Packets.with(UDP, 6, 1, 9, 1)));
        expect("5 before 6", 5, Packets.with(UDP, 34, 6, 28, 0));
        expect("6 before 7", 6, Packets.udp(0, 0, 0, 6, FRAME));
        expect("7 before 8", 7, Packets.udp(0, 0, 0, 7, Packets.frame(Packets.ALL, Packets.ALL, 0)));
        expect("8 before 9", 8, Packets.udp(0, 1, 0, 7, Packets.frame(Packets.mac(2), Packets.ALL, 0)));
    }

    private static void whereItComes() {
        OverlayFabric x = fabric();
        DUE.eq("inject for all", Packets.inject(x, 0, GRE), 0);
        DUE.knows(x, 0, 0, 7, Packets.mac(2), 1, -1, 0);
        DUE.frame(x, 0, 0, FRAME);
        DUE.eq("got(1)", x.got(1), 1);
        DUE.eq("got(2)", x.got(2), 0);
        DUE.eq("got(4)", x.got(4), 0);
        int[] toEleven = Packets.gre(0, 1, 0, 7, Packets.frame(Packets.mac(11), Packets.mac(2), 6));
        DUE.eq("inject for one not known", Packets.inject(x, 0, toEleven), 0);
        DUE.eq("got(0)", x.got(0), 2);
        DUE.eq("got(1)", x.got(1), 2);
        x.send(1, Packets.mac(2), 0);
        DUE.eq("inject for one known", Packets.inject(x, 0, toEleven), 0);
        DUE.eq("got(0)", x.got(0), 2);
        DUE.eq("got(1)", x.got(1), 3);
        x.move(1, 3);
        DUE.eq("inject for one that moved away", Packets.inject(x, 0, toEleven), 0);
        DUE.eq("got(0)", x.got(0), 2);
        DUE.eq("got(1)", x.got(1), 3);
        DUE.eq("count(9)", x.count(9), 0);
    }

    private static void learnsBeforeItLooks() {
        OverlayFabric x = fabric();
        x.send(0, 0, 0);
        // Station 0's own MAC comes from endpoint 1, and is learnt to be there.
        int[] stolen = Packets.udp(0, 1, 0, 7, Packets.frame(Packets.mac(1), Packets.mac(1), 6));
        DUE.eq("inject", Packets.inject(x, 0, stolen), 9);
        DUE.eq("got(0)", x.got(0), 0);
        DUE.eq("known(0)", x.known(0), 1);
        DUE.knows(x, 0, 0, 7, Packets.mac(1), 1, -1, 0);
        DUE.eq("count(9)", x.count(9), 1);
        DUE.eq("count(11)", x.count(11), 2);
        DUE.eq("send(1, 1, 0)", x.send(1, Packets.mac(1), 0), 1);
    }

    private static void deliverAndTwice() {
        OverlayFabric x = fabric();
        x.station(2, 7, 5);
        DUE.eq("send(0, ALL, 1)", x.send(0, Packets.ALL, 1), 2);
        DUE.eq("send(0, ALL, 2)", x.send(0, Packets.ALL, 2), 2);
        DUE.eq("twice(3)", x.twice(3), 0);
        DUE.eq("flying()", x.flying(), 4);
        DUE.eq("got(5)", x.got(5), 1);
        DUE.eq("twice(3)", x.twice(3), 0);
        DUE.eq("got(5)", x.got(5), 2);
        DUE.eq("deliver(1)", x.deliver(1), 0);
        DUE.eq("flying()", x.flying(), 3);
        DUE.eq("got(5)", x.got(5), 3);
        DUE.eq("frame(5, 0, 13)", x.frame(5, 0, 13), 1);
        DUE.eq("frame(5, 1, 13)", x.frame(5, 1, 13), 2);
        DUE.eq("got(2)", x.got(2), 0);
        // The others moved up, and came to endpoint 1, 1, 2 by their order.
        DUE.eq("packet(0, 49)", x.packet(0, 49), 1);
        DUE.eq("packet(1, 19)", x.packet(1, 19), 2);
        DUE.eq("packet(1, 49)", x.packet(1, 49), 2);
        DUE.eq("packet(2, 19)", x.packet(2, 19), 3);
        // A packet comes to where it was sent, whatever its address says by then.
        x.poke(1, 19, 1);
        DUE.eq("twice(1)", x.twice(1), 2);
        DUE.eq("deliver(1)", x.deliver(1), 2);
        DUE.eq("count(2)", x.count(2), 2);
        DUE.eq("flying()", x.flying(), 2);
        // A station that moved changes what is dropped on the way.
        x.move(0, 3);
        x.move(1, 3);
        DUE.eq("deliver(0)", x.deliver(0), 7);
    }
}
