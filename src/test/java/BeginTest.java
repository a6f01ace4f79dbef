/** Promises 1 and 2: a new object, and begin. */
public final class BeginTest {
    private static final Due DUE = new Due();

    public static void main(String[] args) {
        newObject();
        wrongNumbersChangeNothing();
        everyNumberOfEndpoints();
        beginAnew();
        DUE.end();
    }

    private static void newObject() {
        OverlayFabric x = new OverlayFabric();
        expectNothing(x, 4);
        DUE.eq("inject(0) of the empty tape", x.inject(0), 1);
        DUE.eq("station(3, 0, 0)", x.station(3, 0, 0), 0);
        DUE.eq("station(2, 0, 0)", x.station(2, 0, 0), 1);
        DUE.eq("send(0, 1, 0)", x.send(0, 1L, 0), 1);
        DUE.packet(x, 0, Packets.udp(0, 3, 2, 0, Packets.frame(1, Packets.mac(0), 0)));
    }

    private static void wrongNumbersChangeNothing() {
        OverlayFabric x = new OverlayFabric();
        x.station(3, 7, 1);
        x.station(0, 7, 2);
        x.send(0, Packets.ALL, 0);
        for (int n : new int[] {Integer.MIN_VALUE, -1, 0, 1, 9, 10, Integer.MAX_VALUE}) {
            DUE.no("begin(" + n + ")", x.begin(n));
        }
        DUE.eq("known(3)", x.known(3), 1);
        DUE.eq("known(4)", x.known(4), -1);
        DUE.eq("flying()", x.flying(), 1);
        DUE.eq("got(1)", x.got(1), 0);
        DUE.eq("count(0)", x.count(0), 1);
    }

    private static void everyNumberOfEndpoints() {
        OverlayFabric x = new OverlayFabric();
        for (int n = 2; n <= 8; n++) {
            DUE.yes("begin(" + n + ")", x.begin(n));
            expectNothing(x, n);
        }
        DUE.eq("station(7, 0, 0)", x.station(7, 0, 0), 0);
        DUE.eq("station(8, 0, 0)", x.station(8, 0, 0), -1);
    }

    private static void expectNothing(OverlayFabric x, int endpoints) {
        for (int e = 0; e < endpoints; e++) {
            DUE.eq("known(" + e + ")", x.known(e), 0);
        }
        DUE.eq("known(" + endpoints + ")", x.known(endpoints), -1);
        DUE.eq("flying()", x.flying(), 0);
        DUE.eq("got(0)", x.got(0), -1);
        DUE.counts(x, 0, 0, 0, 0, 0, 0, 0, 0, 0, 0, 0, 0, 0);
    }

    private static void beginAnew() {
        OverlayFabric x = new OverlayFabric();
        x.station(0, 7, 1);
        x.station(1, 7, 2);
        x.way(0, 1, 1);
        x.send(0, Packets.ALL, 0);
        x.deliver(0);
        x.send(0, Packets.ALL, 0);
        x.inject(0);
        Packets.feed(x, 9, 8);
        DUE.yes("begin(4)", x.begin(4));
        expectNothing(x, 4);
        // The stations, their frames, the ways and the packets' numbers begin anew; the tape stays.
        DUE.eq("station(1, 7, 2)", x.station(1, 7, 2), 0);
        DUE.eq("station(0, 7, 1)", x.station(0, 7, 1), 1);
        DUE.eq("got(0)", x.got(0), 0);
        DUE.eq("length(0, 0)", x.length(0, 0), -1);
        DUE.eq("send(1, ALL, 5)", x.send(1, Packets.ALL, 5), 1);
        DUE.packet(x, 0, Packets.udp(0, 0, 1, 7, Packets.frame(Packets.ALL, Packets.mac(1), 5, 9, 8)));
    }
}
