/** The edges of promises 8 to 15: the first and the last packet and byte, nothing in flight, and fifty. */
public final class FlightEdgesTest {
    private static final Due DUE = new Due();

    public static void main(String[] args) {
        nothingInFlight();
        deliverAtBothEnds();
        twiceAtBothEnds();
        loseAtBothEnds();
        lastOneOfAll();
        droppedOnesLeaveToo();
        droppedOnesStayBehindTwice();
        comesToWhereItWasSent();
        loseCountsNothing();
        injectAtBothEnds();
        injectTakesTheTape();
        injectIsNoFlight();
        refusedInjectLeavesTheTape();
        pokeAtBothEnds();
        pokeEveryMask();
        pokeChangesOneByte();
        fiftyAtMost();
        sevenOldestAtOnce();
        roomAgain();
        twiceTakesNoRoom();
        DUE.end();
    }

    /** Endpoints 0 to 7 with a station each, of net 7; of net 8 there are station 8 at endpoint 0 and 9 at 1. */
    private static OverlayFabric fabric() {
        OverlayFabric x = new OverlayFabric();
        x.begin(8);
        for (int e = 0; e < 8; e++) {
            x.station(e, 7, e);
        }
        x.station(0, 8, 8);
        x.station(1, 8, 9);
        return x;
    }

    /** So many packets from endpoint 0 to endpoint 1, by the types 0, 1, 2 .. */
    private static OverlayFabric inFlight(int packets) {
        OverlayFabric x = fabric();
        for (int type = 0; type < packets; type++) {
            x.send(8, Packets.ALL, type);
        }
        return x;
    }

    /** The types of all packets in flight are the numbers from first on, but for one. */
    private static void expectTypes(OverlayFabric x, int first, int end, int but) {
        int i = 0;
        for (int type = first; type < end; type++) {
            if (type != but) {
                DUE.eq("packet(" + i + ", 49)", x.packet(i, 49), type);
                i++;
            }
        }
        DUE.eq("flying()", x.flying(), i);
        DUE.eq("size(" + i + ")", x.size(i), -1);
    }

    private static void nothingInFlight() {
        DUE.says("NONE: none such. (nothing is in flight)");
        OverlayFabric x = fabric();
        DUE.eq("flying()", x.flying(), 0);
        for (int i = -1; i <= 1; i++) {
            DUE.eq("deliver(" + i + ")", x.deliver(i), -1);
            DUE.eq("twice(" + i + ")", x.twice(i), -1);
            DUE.no("lose(" + i + ")", x.lose(i));
            DUE.no("poke(" + i + ", 0, 1)", x.poke(i, 0, 1));
            DUE.eq("packet(" + i + ", 0)", x.packet(i, 0), -1);
            DUE.eq("size(" + i + ")", x.size(i), -1);
        }
        DUE.eq("flying()", x.flying(), 0);
        DUE.counts(x, 0, 0, 0, 0, 0, 0, 0, 0, 0, 0, 0, 0, 0);
    }

    private static void deliverAtBothEnds() {
        DUE.says("deliver: Packet i in flight comes to the endpoint that it was sent to. NONE: none such.");
        for (int packets : new int[] {1, 2, 49, 50}) {
            for (int i : new int[] {-1, 0, packets - 1, packets}) {
                OverlayFabric x = inFlight(packets);
                boolean right = i >= 0 && i < packets;
                DUE.eq("of " + packets + ": deliver(" + i + ")", x.deliver(i), right ? 0 : -1);
                DUE.eq("got(9)", x.got(9), right ? 1 : 0);
                DUE.eq("frame(9, 0, 13)", x.frame(9, 0, 13), right ? i : -1);
                expectTypes(x, 0, packets, i);
            }
        }
    }

    private static void twiceAtBothEnds() {
        DUE.says("twice: The same, but it stays in flight, too.");
        for (int packets : new int[] {1, 2, 49, 50}) {
            for (int i : new int[] {-1, 0, packets - 1, packets}) {
                OverlayFabric x = inFlight(packets);
                boolean right = i >= 0 && i < packets;
                DUE.eq("of " + packets + ": twice(" + i + ")", x.twice(i), right ? 0 : -1);
                DUE.eq("again: twice(" + i + ")", x.twice(i), right ? 0 : -1);
                DUE.eq("got(9)", x.got(9), right ? 2 : 0);
                DUE.eq("frame(9, 0, 13)", x.frame(9, 0, 13), right ? i : -1);
                DUE.eq("frame(9, 1, 13)", x.frame(9, 1, 13), right ? i : -1);
                expectTypes(x, 0, packets, -1);
            }
        }
    }

    private static void loseAtBothEnds() {
        DUE.says("lose: Packet i is lost. False: none such.");
        for (int packets : new int[] {1, 2, 49, 50}) {
            for (int i : new int[] {-1, 0, packets - 1, packets}) {
                OverlayFabric x = inFlight(packets);
                boolean right = i >= 0 && i < packets;
                DUE.eq("of " + packets + ": lose(" + i + ")", x.lose(i) ? 1 : 0, right ? 1 : 0);
                DUE.eq("got(9)", x.got(9), 0);
                expectTypes(x, 0, packets, i);
            }
        }
    }

    private static void lastOneOfAll() {
        DUE.says("flying: How many packets are in flight");
        OverlayFabric x = inFlight(3);
        x.deliver(0);
        DUE.eq("flying()", x.flying(), 2);
        x.lose(0);
        DUE.eq("flying()", x.flying(), 1);
        x.deliver(0);
        DUE.eq("flying()", x.flying(), 0);
        DUE.eq("deliver(0)", x.deliver(0), -1);
        DUE.no("lose(0)", x.lose(0));
        DUE.eq("got(9)", x.got(9), 2);
    }

    private static void droppedOnesLeaveToo() {
        DUE.says("deliver: 0, or why it was dropped");
        OverlayFabric x = inFlight(3);
        x.poke(1, 0, 1);
        DUE.eq("deliver(1)", x.deliver(1), 1);
        expectTypes(x, 0, 3, 1);
        DUE.eq("got(9)", x.got(9), 0);
        DUE.eq("count(1)", x.count(1), 1);
    }

    private static void droppedOnesStayBehindTwice() {
        DUE.says("twice: The same, but it stays in flight, too.");
        OverlayFabric x = inFlight(3);
        x.poke(1, 0, 1);
        DUE.eq("twice(1)", x.twice(1), 1);
        DUE.eq("twice(1)", x.twice(1), 1);
        expectTypes(x, 0, 3, -1);
        DUE.eq("count(1)", x.count(1), 2);
    }

    private static void comesToWhereItWasSent() {
        DUE.says("deliver: comes to the endpoint that it was sent to");
        OverlayFabric x = inFlight(1);
        // Its address is that of endpoint 0 by now, with a right sum: 10.0.0.2 to 10.0.0.1 at 19, the sum at 11.
        int sum = x.packet(0, 11);
        x.poke(0, 19, 2 ^ 1);
        x.poke(0, 11, sum ^ sum + 1);
        DUE.eq("deliver(0)", x.deliver(0), 3);
        DUE.eq("got(9)", x.got(9), 0);
        DUE.eq("got(8)", x.got(8), 0);
    }

    private static void loseCountsNothing() {
        DUE.says("lose: Packet i is lost.");
        OverlayFabric x = inFlight(2);
        DUE.yes("lose(1)", x.lose(1));
        DUE.yes("lose(0)", x.lose(0));
        DUE.counts(x, 2, 0, 0, 0, 0, 0, 0, 0, 0, 0, 0, 1, 0);
        DUE.eq("known(1)", x.known(1), 0);
    }

    private static void injectAtBothEnds() {
        DUE.says("inject: comes to an endpoint as a packet. NONE: no such endpoint.");
        int[] frame = Packets.frame(Packets.ALL, 4, 5);
        for (int e = -1; e <= 8; e++) {
            OverlayFabric x = fabric();
            int[] packet = Packets.gre(9, e == 3 ? 4 : 3, e, 7, frame);
            boolean right = e >= 0 && e < 8;
            DUE.eq("inject(" + e + ")", Packets.inject(x, e, packet), right ? 0 : -1);
            for (int s = 0; s < 10; s++) {
                DUE.eq("inject(" + e + "): got(" + s + ")", x.got(s), right && s == e ? 1 : 0);
            }
        }
    }

    private static void injectTakesTheTape() {
        DUE.says("inject: The tape, which is empty then: 0, or why it was dropped");
        OverlayFabric x = fabric();
        DUE.eq("inject(0) of nothing", x.inject(0), 1);
        DUE.eq("count(1)", x.count(1), 1);
        // Let in or dropped, the tape is empty: what is fed next is all of the next packet.
        int[] good = Packets.udp(9, 1, 0, 7, Packets.frame(Packets.ALL, 4, 5));
        DUE.eq("a good one", Packets.inject(x, 0, good), 0);
        DUE.eq("the tape behind it", x.inject(0), 1);
        DUE.eq("a bad one", Packets.inject(x, 0, Packets.with(good, 11, good[11] ^ 1)), 2);
        DUE.eq("a good one", Packets.inject(x, 0, good), 0);
        DUE.eq("got(0)", x.got(0), 2);
        DUE.eq("count(1)", x.count(1), 2);
    }

    private static void injectIsNoFlight() {
        DUE.says("inject: The tape comes to an endpoint as a packet");
        OverlayFabric x = fabric();
        DUE.eq("inject(0)", Packets.inject(x, 0, Packets.udp(9, 1, 0, 7, Packets.frame(Packets.ALL, 4, 5))), 0);
        DUE.eq("flying()", x.flying(), 0);
        DUE.eq("count(0)", x.count(0), 0);
        x.send(1, Packets.ALL, 0);
        DUE.eq("packet(0, 5): endpoint 1 sent none before", x.packet(0, 5), 0);
    }

    private static void refusedInjectLeavesTheTape() {
        DUE.says("inject: NONE, the tape staying: no such endpoint.");
        OverlayFabric x = fabric();
        Packets.feed(x, Packets.udp(9, 1, 0, 7, Packets.frame(Packets.ALL, 4, 5)));
        DUE.eq("inject(8)", x.inject(8), -1);
        DUE.eq("inject(-1)", x.inject(-1), -1);
        DUE.eq("inject(0)", x.inject(0), 0);
        DUE.eq("got(0)", x.got(0), 1);
    }

    private static void pokeAtBothEnds() {
        DUE.says("poke: A byte of packet i is changed. False: none such.");
        int[] heads = {36, 28, 32};
        for (int way = 0; way <= 2; way++) {
            for (int bytes : new int[] {0, 40}) {
                OverlayFabric x = fabric();
                x.way(0, 1, way);
                Packets.feed(x, new int[bytes]);
                x.send(8, Packets.ALL, 0);
                int size = heads[way] + 14 + bytes;
                DUE.no("poke(0, -1, 1)", x.poke(0, -1, 1));
                DUE.no("poke(0, " + size + ", 1)", x.poke(0, size, 1));
                DUE.yes("poke(0, 0, 1)", x.poke(0, 0, 1));
                DUE.yes("poke(0, " + (size - 1) + ", 1)", x.poke(0, size - 1, 1));
                DUE.eq("packet(0, 0)", x.packet(0, 0), 68);
                DUE.eq("packet(0, " + (size - 1) + ")", x.packet(0, size - 1), 1);
                DUE.eq("packet(0, " + (size - 2) + ")", x.packet(0, size - 2), 0);
                DUE.eq("size(0)", x.size(0), size);
            }
        }
        OverlayFabric full = inFlight(50);
        DUE.yes("poke(49, 49, 128)", full.poke(49, 49, 128));
        DUE.eq("packet(49, 49)", full.packet(49, 49), 49 + 128);
        DUE.no("poke(50, 49, 128)", full.poke(50, 49, 128));
        DUE.yes("poke(0, 49, 128)", full.poke(0, 49, 128));
        DUE.eq("packet(0, 49)", full.packet(0, 49), 128);
        DUE.eq("packet(1, 49)", full.packet(1, 49), 1);
    }

    private static void pokeEveryMask() {
        DUE.says("poke: changed where mask (1 .. 255) has bits. False: none such.");
        OverlayFabric x = inFlight(1);
        int want = 8;
        for (int mask = -1; mask <= 257; mask++) {
            boolean right = mask >= 1 && mask <= 255;
            DUE.eq("poke(0, 47, " + mask + ")", x.poke(0, 47, mask) ? 1 : 0, right ? 1 : 0);
            want ^= right ? mask : 0;
            if (mask < 4 || mask > 250 || mask % 16 == 0) {
                DUE.eq("packet(0, 47)", x.packet(0, 47), want);
            }
        }
    }

    private static void pokeChangesOneByte() {
        DUE.says("poke: A byte of packet i is changed where mask has bits");
        OverlayFabric x = inFlight(2);
        int[] first = Packets.udp(0, 0, 1, 8, Packets.frame(Packets.ALL, Packets.mac(8), 0));
        int[] second = Packets.udp(1, 0, 1, 8, Packets.frame(Packets.ALL, Packets.mac(8), 1));
        DUE.yes("poke(1, 36, 254)", x.poke(1, 36, 254));
        DUE.packet(x, 0, first);
        DUE.packet(x, 1, Packets.with(second, 36, 1));
        DUE.yes("poke(1, 36, 254) again", x.poke(1, 36, 254));
        DUE.packet(x, 1, second);
        // A frame that came before keeps its bytes.
        x.twice(0);
        x.poke(0, 49, 255);
        DUE.eq("frame(9, 0, 13)", x.frame(9, 0, 13), 0);
        DUE.eq("deliver(0)", x.deliver(0), 0);
        DUE.eq("frame(9, 0, 13)", x.frame(9, 0, 13), 255);
        DUE.eq("frame(9, 1, 13)", x.frame(9, 1, 13), 0);
    }

    private static void fiftyAtMost() {
        DUE.says("flying: (of more than 50 the oldest is lost); count: 10 lost for want of room");
        for (int packets = 48; packets <= 53; packets++) {
            OverlayFabric x = inFlight(packets);
            int lost = Math.max(0, packets - 50);
            expectTypes(x, lost, packets, -1);
            DUE.eq("count(0)", x.count(0), packets);
            DUE.eq("count(10)", x.count(10), lost);
            DUE.eq("packet(49, 0)", x.packet(49, 0), packets >= 50 ? 69 : -1);
            DUE.eq("packet(50, 0)", x.packet(50, 0), -1);
            DUE.eq("deliver(0)", x.deliver(0), 0);
            DUE.eq("frame(9, 0, 13)", x.frame(9, 0, 13), lost);
        }
    }

    private static void sevenOldestAtOnce() {
        DUE.says("flying: (of more than 50 the oldest is lost)");
        for (int before : new int[] {43, 44, 49, 50}) {
            OverlayFabric x = inFlight(before);
            DUE.eq("send(0, ALL, 99)", x.send(0, Packets.ALL, 99), 7);
            int lost = before + 7 - 50;
            DUE.eq("flying()", x.flying(), 50);
            DUE.eq("count(10)", x.count(10), lost);
            DUE.eq("count(0)", x.count(0), before + 7);
            DUE.eq("packet(0, 49)", x.packet(0, 49), lost);
            DUE.eq("packet(42, 49)", x.packet(42, 49), before - 1);
            for (int i = 0; i < 7; i++) {
                DUE.eq("packet(" + (43 + i) + ", 49)", x.packet(43 + i, 49), 99);
                DUE.eq("packet(" + (43 + i) + ", 19)", x.packet(43 + i, 19), 2 + i);
            }
        }
    }

    private static void roomAgain() {
        DUE.says("flying: How many packets are in flight (of more than 50 the oldest is lost)");
        OverlayFabric x = inFlight(50);
        x.deliver(20);
        x.send(8, Packets.ALL, 50);
        expectTypes(x, 0, 51, 20);
        x.lose(49);
        x.send(8, Packets.ALL, 51);
        DUE.eq("flying()", x.flying(), 50);
        DUE.eq("count(10)", x.count(10), 0);
        DUE.eq("packet(0, 49)", x.packet(0, 49), 0);
        DUE.eq("packet(49, 49)", x.packet(49, 49), 51);
        x.send(8, Packets.ALL, 52);
        DUE.eq("flying()", x.flying(), 50);
        DUE.eq("count(10)", x.count(10), 1);
        DUE.eq("packet(0, 49)", x.packet(0, 49), 1);
    }

    private static void twiceTakesNoRoom() {
        DUE.says("twice: The same, but it stays in flight, too.");
        OverlayFabric x = inFlight(50);
        DUE.eq("twice(49)", x.twice(49), 0);
        DUE.eq("twice(0)", x.twice(0), 0);
        expectTypes(x, 0, 50, -1);
        DUE.eq("count(10)", x.count(10), 0);
        DUE.eq("count(0)", x.count(0), 50);
    }
}
