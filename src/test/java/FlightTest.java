/** Promises 10 and 12 to 15: lose, poke, flying, packet and size. */
public final class FlightTest {
    private static final Due DUE = new Due();

    public static void main(String[] args) {
        noneSuch();
        lose();
        poke();
        pokeLeavesFramesAlone();
        moreThanFifty();
        DUE.end();
    }

    private static OverlayFabric fabric() {
        OverlayFabric x = new OverlayFabric();
        x.begin(8);
        for (int e = 0; e < 8; e++) {
            x.station(e, 7, e);
        }
        return x;
    }

    private static void noneSuch() {
        OverlayFabric x = fabric();
        DUE.eq("flying()", x.flying(), 0);
        x.send(0, Packets.ALL, 0);
        DUE.eq("flying()", x.flying(), 7);
        for (int i : new int[] {-1, 7, Integer.MIN_VALUE, Integer.MAX_VALUE}) {
            DUE.no("lose(" + i + ")", x.lose(i));
            DUE.no("poke(" + i + ", 0, 1)", x.poke(i, 0, 1));
            DUE.eq("packet(" + i + ", 0)", x.packet(i, 0), -1);
            DUE.eq("size(" + i + ")", x.size(i), -1);
        }
        DUE.eq("size(6)", x.size(6), 50);
        DUE.eq("packet(6, 49)", x.packet(6, 49), 0);
        DUE.eq("packet(6, 50)", x.packet(6, 50), -1);
        DUE.eq("packet(6, -1)", x.packet(6, -1), -1);
        DUE.eq("packet(6, MAX)", x.packet(6, Integer.MAX_VALUE), -1);
        DUE.eq("flying()", x.flying(), 7);
    }

    private static void lose() {
        OverlayFabric x = fabric();
        x.send(0, Packets.ALL, 0);
        DUE.yes("lose(6)", x.lose(6));
        DUE.yes("lose(0)", x.lose(0));
        DUE.yes("lose(1)", x.lose(1));
        DUE.eq("flying()", x.flying(), 4);
        DUE.eq("packet(0, 19)", x.packet(0, 19), 3);
        DUE.eq("packet(1, 19)", x.packet(1, 19), 5);
        DUE.eq("packet(3, 19)", x.packet(3, 19), 7);
        DUE.eq("got(1)", x.got(1), 0);
        DUE.counts(x, 7, 0, 0, 0, 0, 0, 0, 0, 0, 0, 0, 1, 0);
    }

    private static void poke() {
        OverlayFabric x = fabric();
        x.send(0, Packets.ALL, 0);
        for (int mask : new int[] {0, -1, 256, Integer.MIN_VALUE, Integer.MAX_VALUE}) {
            DUE.no("poke(0, 0, " + mask + ")", x.poke(0, 0, mask));
        }
        DUE.no("poke(0, -1, 1)", x.poke(0, -1, 1));
        DUE.no("poke(0, 50, 1)", x.poke(0, 50, 1));
        int[] packet = Packets.udp(0, 0, 1, 7, Packets.frame(Packets.ALL, Packets.mac(0), 0));
        DUE.packet(x, 0, packet);
        DUE.yes("poke(0, 0, 255)", x.poke(0, 0, 255));
        DUE.yes("poke(0, 49, 1)", x.poke(0, 49, 1));
        DUE.yes("poke(0, 49, 129)", x.poke(0, 49, 129));
        DUE.packet(x, 0, Packets.with(packet, 0, 69 ^ 255, 49, 128));
        DUE.eq("packet(1, 0)", x.packet(1, 0), 69);
        DUE.eq("twice(0)", x.twice(0), 1);
        DUE.yes("poke(0, 0, 255)", x.poke(0, 0, 255));
        DUE.eq("twice(0)", x.twice(0), 0);
    }

    private static void pokeLeavesFramesAlone() {
        OverlayFabric x = fabric();
        x.station(0, 7, 99);
        x.send(0, Packets.ALL, 3);
        x.twice(0);
        x.poke(0, 49, 8);
        DUE.eq("frame(1, 0, 13)", x.frame(1, 0, 13), 3);
        DUE.eq("frame(8, 0, 13)", x.frame(8, 0, 13), 3);
        DUE.eq("packet(1, 49)", x.packet(1, 49), 3);
        x.deliver(0);
        DUE.eq("frame(1, 0, 13)", x.frame(1, 0, 13), 11);
        DUE.eq("frame(1, 1, 13)", x.frame(1, 1, 13), 3);
    }

    private static void moreThanFifty() {
        OverlayFabric x = fabric();
        for (int n = 0; n < 7; n++) {
            DUE.eq("send(0, ALL, 0)", x.send(0, Packets.ALL, 0), 7);
        }
        DUE.eq("flying()", x.flying(), 49);
        x.station(5, 9, 1);
        x.station(6, 9, 2);
        DUE.eq("send(8, ALL, 0)", x.send(8, Packets.ALL, 0), 1);
        DUE.eq("flying()", x.flying(), 50);
        DUE.eq("count(10)", x.count(10), 0);
        DUE.eq("packet(0, 5)", x.packet(0, 5), 0);
        DUE.eq("send(8, ALL, 0)", x.send(8, Packets.ALL, 0), 1);
        DUE.eq("flying()", x.flying(), 50);
        DUE.eq("count(10)", x.count(10), 1);
        DUE.eq("count(0)", x.count(0), 51);
        DUE.eq("packet(0, 5)", x.packet(0, 5), 1);
        DUE.eq("packet(0, 19)", x.packet(0, 19), 3);
        DUE.eq("packet(49, 5)", x.packet(49, 5), 1);
        DUE.eq("packet(49, 19)", x.packet(49, 19), 7);
        DUE.eq("packet(50, 0)", x.packet(50, 0), -1);
    }
}
