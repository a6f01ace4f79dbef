/** The edges of promise 5: which ways there are, and that each stands for one pair of endpoints alone. */
public final class WayEdgesTest {
    private static final Due DUE = new Due();

    public static void main(String[] args) {
        waysAtBothEnds();
        onePairAlone(0, 7);
        onePairAlone(7, 0);
        onePairAlone(6, 7);
        onePairAlone(0, 1);
        onlyTheSameIsRefused();
        packetsInFlightKeepTheirs();
        staysAtTheEndpoint();
        DUE.end();
    }

    private static void waysAtBothEnds() {
        DUE.says("way: False: no such way; 0 UDP, 1 GRE, 2 GRE with a sum");
        int[] frame = Packets.frame(Packets.ALL, Packets.mac(1), 5);
        for (int way = -1; way <= 3; way++) {
            OverlayFabric x = new OverlayFabric();
            x.station(0, 7, 1);
            x.station(1, 7, 2);
            DUE.yes("way(0, 1, 1)", x.way(0, 1, 1));
            DUE.eq("way(0, 1, " + way + ")", x.way(0, 1, way) ? 1 : 0, way >= 0 && way <= 2 ? 1 : 0);
            x.send(0, Packets.ALL, 5);
            // A refused way leaves the one that was told before.
            DUE.packet(x, 0, way == 0 ? Packets.udp(0, 0, 1, 7, frame)
                : way == 2 ? Packets.greWithSum(0, 0, 1, 7, frame) : Packets.gre(0, 0, 1, 7, frame));
        }
    }

    private static void onePairAlone(int from, int to) {
        DUE.says("way: The way of packets from an endpoint to another one.");
        OverlayFabric x = new OverlayFabric();
        x.begin(8);
        for (int e = 0; e < 8; e++) {
            x.station(e, 7, e);
        }
        DUE.yes("way(" + from + ", " + to + ", 1)", x.way(from, to, 1));
        for (int sender = 0; sender < 8; sender++) {
            DUE.eq("send(" + sender + ", ALL, 0)", x.send(sender, Packets.ALL, 0), 7);
            for (int e = 0; e < 8; e++) {
                if (e != sender) {
                    boolean told = sender == from && e == to;
                    DUE.eq("from " + sender + " to " + e + ", byte 19", x.packet(0, 19), 1 + e);
                    DUE.eq("from " + sender + " to " + e + ", byte 9", x.packet(0, 9), told ? 47 : 17);
                    x.lose(0);
                }
            }
        }
    }

    private static void onlyTheSameIsRefused() {
        DUE.says("way: False: none such, the same");
        OverlayFabric x = new OverlayFabric();
        x.begin(8);
        for (int from = -1; from <= 8; from++) {
            for (int to = -1; to <= 8; to++) {
                boolean right = from >= 0 && from < 8 && to >= 0 && to < 8 && from != to;
                DUE.eq("way(" + from + ", " + to + ", 2)", x.way(from, to, 2) ? 1 : 0, right ? 1 : 0);
            }
        }
    }

    private static void packetsInFlightKeepTheirs() {
        DUE.says("To each other endpoint packets go by the WAY told for it");
        OverlayFabric x = new OverlayFabric();
        x.station(0, 7, 1);
        x.station(1, 7, 2);
        x.send(0, Packets.ALL, 0);
        x.way(0, 1, 2);
        x.send(0, Packets.ALL, 0);
        int[] frame = Packets.frame(Packets.ALL, Packets.mac(1), 0);
        DUE.packet(x, 0, Packets.udp(0, 0, 1, 7, frame));
        DUE.packet(x, 1, Packets.greWithSum(1, 0, 1, 7, frame));
        // Whatever way is told by then, each is taken for what it is.
        DUE.eq("deliver(1)", x.deliver(1), 0);
        DUE.eq("deliver(0)", x.deliver(0), 0);
        DUE.eq("got(1)", x.got(1), 2);
    }

    private static void staysAtTheEndpoint() {
        DUE.says("way: The way of packets from an endpoint to another one.");
        OverlayFabric x = new OverlayFabric();
        x.station(0, 7, 1);
        x.station(1, 7, 2);
        x.way(0, 1, 2);
        x.move(0, 2);
        x.send(0, Packets.ALL, 0);
        DUE.eq("packet(0, 9) from endpoint 2", x.packet(0, 9), 17);
        x.move(0, 0);
        x.send(0, Packets.ALL, 0);
        DUE.eq("packet(1, 9) from endpoint 0", x.packet(1, 9), 47);
        // To one known there it goes by the same way as to all.
        x.send(1, Packets.ALL, 0);
        x.deliver(2);
        x.send(0, Packets.mac(2), 0);
        DUE.eq("packet(2, 20)", x.packet(2, 20), 160);
    }
}
