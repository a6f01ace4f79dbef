/** Promises 3 and 4: station and move. */
public final class StationTest {
    private static final Due DUE = new Due();

    public static void main(String[] args) {
        wrongOnes();
        thirtyTwo();
        macs();
        wrongMoves();
        movedStation();
        DUE.end();
    }

    private static void wrongOnes() {
        OverlayFabric x = new OverlayFabric();
        DUE.eq("station(-1, 0, 0)", x.station(-1, 0, 0), -1);
        DUE.eq("station(4, 0, 0)", x.station(4, 0, 0), -1);
        DUE.eq("station(MIN, 0, 0)", x.station(Integer.MIN_VALUE, 0, 0), -1);
        DUE.eq("station(MAX, 0, 0)", x.station(Integer.MAX_VALUE, 0, 0), -1);
        DUE.eq("station(0, -1, 0)", x.station(0, -1, 0), -1);
        DUE.eq("station(0, 16777216, 0)", x.station(0, 16777216, 0), -1);
        DUE.eq("station(0, 16777215, 0)", x.station(0, 16777215, 0), 0);
        DUE.eq("station(3, 0, 0)", x.station(3, 0, 0), 1);
    }

    private static void thirtyTwo() {
        OverlayFabric x = new OverlayFabric();
        for (int s = 0; s < 32; s++) {
            DUE.eq("station " + s, x.station(s % 4, 1, s), s);
        }
        DUE.eq("station 32", x.station(0, 1, 32), -1);
        DUE.eq("got(31)", x.got(31), 0);
        DUE.eq("got(32)", x.got(32), -1);
        x.begin(4);
        DUE.eq("station 0 again", x.station(0, 1, 32), 0);
    }

    private static void macs() {
        int[] fours = {0, 1, -1, Integer.MIN_VALUE, Integer.MAX_VALUE, 0x01020304};
        long[] macs = {0x020000000000L, 0x020000000001L, 0x0200FFFFFFFFL,
            0x020080000000L, 0x02007FFFFFFFL, 0x020001020304L};
        for (int i = 0; i < fours.length; i++) {
            OverlayFabric x = new OverlayFabric();
            x.station(0, 16777215, fours[i]);
            x.send(0, 0, 0);
            DUE.knows(x, 0, 0, 16777215, macs[i], -1, 0, 0);
        }
    }

    private static void wrongMoves() {
        OverlayFabric x = new OverlayFabric();
        DUE.no("move(0, 1) with no station", x.move(0, 1));
        x.station(0, 7, 1);
        DUE.no("move(-1, 1)", x.move(-1, 1));
        DUE.no("move(1, 1)", x.move(1, 1));
        DUE.no("move(0, -1)", x.move(0, -1));
        DUE.no("move(0, 4)", x.move(0, 4));
        x.send(0, 0, 0);
        DUE.eq("known(0)", x.known(0), 1);
        DUE.yes("move(0, 0), where it is", x.move(0, 0));
        DUE.yes("move(0, 3)", x.move(0, 3));
        x.send(0, 0, 0);
        DUE.eq("known(3)", x.known(3), 1);
    }

    private static void movedStation() {
        OverlayFabric x = new OverlayFabric();
        x.station(0, 7, 1);
        x.station(0, 7, 2);
        x.station(1, 7, 3);
        x.send(1, Packets.mac(2), 0);
        DUE.yes("move(1, 2)", x.move(1, 2));
        DUE.knows(x, 0, 0, 7, Packets.mac(2), -1, 1, 0);
        // It is known to be at endpoint 0 still, so nothing comes to it and nothing goes out.
        DUE.eq("send(0, 2, 0)", x.send(0, Packets.mac(2), 0), 0);
        DUE.eq("got(1)", x.got(1), 0);
        // Endpoint 2 has the net now, and a frame to all reaches the station there.
        DUE.eq("send(0, ALL, 0)", x.send(0, Packets.ALL, 0), 2);
        DUE.eq("deliver(1)", x.deliver(1), 0);
        DUE.eq("got(1)", x.got(1), 1);
        // It sends from endpoint 2, from where endpoint 0 learns it anew.
        DUE.eq("send(1, 1, 0)", x.send(1, Packets.mac(1), 0), 1);
        DUE.eq("deliver(1)", x.deliver(1), 0);
        DUE.knows(x, 0, 0, 7, Packets.mac(1), -1, 0, 0);
        DUE.knows(x, 0, 1, 7, Packets.mac(2), 2, -1, 0);
        DUE.eq("send(0, 2, 0)", x.send(0, Packets.mac(2), 0), 1);
        // Back again: endpoint 0 takes it for a station of endpoint 2 until it is heard.
        DUE.yes("move(1, 0)", x.move(1, 0));
        DUE.eq("send(0, 2, 0)", x.send(0, Packets.mac(2), 0), 1);
        DUE.eq("got(1)", x.got(1), 1);
        x.send(1, Packets.mac(1), 0);
        DUE.eq("send(0, 2, 0)", x.send(0, Packets.mac(2), 0), 0);
        DUE.eq("got(1)", x.got(1), 2);
    }
}
