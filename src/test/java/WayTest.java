/** Promise 5: way. */
public final class WayTest {
    private static final Due DUE = new Due();

    public static void main(String[] args) {
        wrongOnes();
        eachWayAlone();
        toEndpointZero();
        DUE.end();
    }

    private static void wrongOnes() {
        OverlayFabric x = new OverlayFabric();
        x.station(0, 7, 1);
        x.station(1, 7, 2);
        DUE.no("way(-1, 1, 1)", x.way(-1, 1, 1));
        DUE.no("way(4, 1, 1)", x.way(4, 1, 1));
        DUE.no("way(0, -1, 1)", x.way(0, -1, 1));
        DUE.no("way(0, 4, 1)", x.way(0, 4, 1));
        DUE.no("way(1, 1, 1)", x.way(1, 1, 1));
        DUE.no("way(0, 1, -1)", x.way(0, 1, -1));
        DUE.no("way(0, 1, 3)", x.way(0, 1, 3));
        x.send(0, Packets.ALL, 0);
        DUE.packet(x, 0, Packets.udp(0, 0, 1, 7, Packets.frame(Packets.ALL, Packets.mac(1), 0)));
        DUE.yes("way(3, 0, 2)", x.way(3, 0, 2));
        x.begin(2);
        DUE.no("way(0, 2, 1)", x.way(0, 2, 1));
        DUE.no("way(2, 0, 1)", x.way(2, 0, 1));
    }

    private static void eachWayAlone() {
        OverlayFabric x = new OverlayFabric();
        for (int e = 0; e < 4; e++) {
            x.station(e, 7, e);
        }
        DUE.yes("way(0, 1, 1)", x.way(0, 1, 1));
        DUE.yes("way(0, 2, 2)", x.way(0, 2, 2));
        x.send(0, Packets.ALL, 3);
        int[] frame = Packets.frame(Packets.ALL, Packets.mac(0), 3);
        DUE.packet(x, 0, Packets.gre(0, 0, 1, 7, frame));
        DUE.packet(x, 1, Packets.greWithSum(1, 0, 2, 7, frame));
        DUE.packet(x, 2, Packets.udp(2, 0, 3, 7, frame));
        // The way back is one of its own, and a way can be told anew.
        x.send(1, Packets.ALL, 3);
        DUE.packet(x, 3, Packets.udp(0, 1, 0, 7, Packets.frame(Packets.ALL, Packets.mac(1), 3)));
        DUE.yes("way(0, 1, 0)", x.way(0, 1, 0));
        x.send(0, Packets.ALL, 3);
        DUE.packet(x, 6, Packets.udp(3, 0, 1, 7, frame));
    }

    private static void toEndpointZero() {
        OverlayFabric x = new OverlayFabric();
        x.station(3, 7, 1);
        x.station(0, 7, 2);
        int[] frame = Packets.frame(Packets.ALL, Packets.mac(1), 3);
        DUE.yes("way(3, 0, 2)", x.way(3, 0, 2));
        x.send(0, Packets.ALL, 3);
        DUE.packet(x, 0, Packets.greWithSum(0, 3, 0, 7, frame));
        x.begin(4);
        x.station(3, 7, 1);
        x.station(0, 7, 2);
        x.send(0, Packets.ALL, 3);
        DUE.packet(x, 0, Packets.udp(0, 3, 0, 7, frame));
    }
}
