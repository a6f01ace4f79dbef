import java.util.List;

/** The edges of promises 1 and 2: how many endpoints there can be, and what begin leaves. */
public final class BeginEdgesTest {
    private static final Due DUE = new Due();

    public static void main(String[] args) {
        newObject();
        fewestAndMost();
        endpointsOfEveryCall();
        nothingIsLeft();
        nothingIsLeftOfHighEndpoints();
        allWaysAreZero();
        fullTapeStays();
        numbersOfPacketsBeginAnew();
        DUE.end();
    }

    private static void newObject() {
        DUE.says("A new object: As behind begin(4).");
        OverlayFabric begun = new OverlayFabric();
        DUE.yes("begin(4)", begun.begin(4));
        DUE.same("begin(4)", State.of(begun), State.of(new OverlayFabric()));
        OverlayFabric fresh = new OverlayFabric();
        DUE.eq("known(3)", fresh.known(3), 0);
        DUE.eq("known(4)", fresh.known(4), -1);
        DUE.eq("flying()", fresh.flying(), 0);
        DUE.eq("got(0)", fresh.got(0), -1);
        DUE.counts(fresh, 0, 0, 0, 0, 0, 0, 0, 0, 0, 0, 0, 0, 0);
    }

    private static void fewestAndMost() {
        DUE.says("begin: So many endpoints. False: not 2 .. 8.");
        for (int n = -2; n <= 12; n++) {
            OverlayFabric x = new OverlayFabric();
            DUE.eq("begin(" + n + ")", x.begin(n) ? 1 : 0, n >= 2 && n <= 8 ? 1 : 0);
            int endpoints = n >= 2 && n <= 8 ? n : 4;
            DUE.eq("begin(" + n + "): known of the last", x.known(endpoints - 1), 0);
            DUE.eq("begin(" + n + "): known behind it", x.known(endpoints), -1);
        }
    }

    private static void endpointsOfEveryCall() {
        DUE.says("ENDPOINTS 0 .. n - 1 (2 .. 8)");
        for (int n = 2; n <= 8; n++) {
            OverlayFabric x = new OverlayFabric();
            x.begin(n);
            DUE.eq("station at n", x.station(n, 7, 1), -1);
            DUE.eq("station at n - 1", x.station(n - 1, 7, 1), 0);
            DUE.eq("station at 0", x.station(0, 7, 2), 1);
            DUE.no("way from n", x.way(n, 0, 1));
            DUE.no("way to n", x.way(0, n, 1));
            DUE.yes("way from n - 1", x.way(n - 1, 0, 1));
            DUE.yes("way to n - 1", x.way(0, n - 1, 1));
            DUE.eq("send from n - 1", x.send(0, Packets.ALL, 0), 1);
            DUE.eq("inject to n", x.inject(n), -1);
            DUE.eq("inject to n - 1", x.inject(n - 1), 1);
            DUE.eq("known of n", x.known(n), -1);
            DUE.eq("known of n - 1", x.known(n - 1), 1);
            DUE.eq("knows of n", x.knows(n, 0, 0), -1);
            DUE.eq("knows of n - 1", x.knows(n - 1, 0, 0), 7);
            DUE.no("move to n", x.move(1, n));
            DUE.yes("move to n - 1", x.move(1, n - 1));
            DUE.eq("forget of n", x.forget(n), -1);
            DUE.eq("forget of n - 1", x.forget(n - 1), 1);
        }
    }

    private static void nothingIsLeft() {
        DUE.says("begin: no stations, nothing known, in flight, or counted; all ways 0 (the tape stays)");
        for (int n = 2; n <= 8; n++) {
            OverlayFabric x = State.busy();
            DUE.yes("begin(" + n + ")", x.begin(n));
            OverlayFabric fresh = new OverlayFabric();
            Packets.feed(fresh, 6, 7);
            fresh.begin(n);
            List<String> want = State.of(fresh);
            DUE.same("begin(" + n + ")", State.of(x), want);
        }
    }

    private static void nothingIsLeftOfHighEndpoints() {
        DUE.says("begin: nothing known; all ways 0");
        OverlayFabric x = new OverlayFabric();
        x.begin(8);
        x.station(7, 7, 1);
        x.station(6, 7, 2);
        x.way(7, 6, 2);
        x.send(0, Packets.ALL, 0);
        // Fewer endpoints in between: those that are out of use must begin anew with the others.
        DUE.yes("begin(2)", x.begin(2));
        DUE.yes("begin(8)", x.begin(8));
        DUE.eq("known(7)", x.known(7), 0);
        DUE.eq("tick(1000)", x.tick(1000), 0);
        x.station(7, 7, 1);
        x.station(6, 7, 2);
        x.send(0, Packets.ALL, 0);
        DUE.packet(x, 0, Packets.udp(0, 7, 6, 7, Packets.frame(Packets.ALL, Packets.mac(1), 0)));
    }

    private static void allWaysAreZero() {
        DUE.says("begin: all ways 0");
        OverlayFabric x = new OverlayFabric();
        x.begin(8);
        for (int from = 0; from < 8; from++) {
            for (int to = 0; to < 8; to++) {
                DUE.eq("way(" + from + ", " + to + ", 2)", x.way(from, to, 2) ? 1 : 0, from == to ? 0 : 1);
            }
        }
        DUE.yes("begin(8)", x.begin(8));
        for (int e = 0; e < 8; e++) {
            x.station(e, 7, e);
        }
        for (int e = 0; e < 8; e++) {
            DUE.eq("send(" + e + ", ALL, 0)", x.send(e, Packets.ALL, 0), 7);
            for (int i = 0; i < 7; i++) {
                DUE.eq("from " + e + ": packet(0, 9)", x.packet(0, 9), 17);
                x.lose(0);
            }
        }
    }

    private static void fullTapeStays() {
        DUE.says("begin: (the tape stays)");
        int[] frame = Packets.frame(Packets.ALL, Packets.mac(2), 5, new int[78]);
        for (int i = 14; i < frame.length; i++) {
            frame[i] = i;
        }
        OverlayFabric x = new OverlayFabric();
        Packets.feed(x, Packets.gre(9, 1, 0, 7, frame));
        DUE.yes("begin(2)", x.begin(2));
        DUE.no("begin(9)", x.begin(9));
        DUE.no("feed(1)", x.feed(1));
        x.station(0, 7, 1);
        x.station(1, 7, 2);
        DUE.eq("inject(0)", x.inject(0), 0);
        DUE.frame(x, 0, 0, frame);
    }

    private static void numbersOfPacketsBeginAnew() {
        DUE.says("a number (how many packets the endpoint sent before)");
        OverlayFabric x = new OverlayFabric();
        for (int round = 0; round < 2; round++) {
            x.begin(4);
            x.station(0, 7, 1);
            x.station(1, 7, 2);
            for (int n = 0; n < 3; n++) {
                x.send(0, Packets.ALL, 0);
                DUE.eq("packet(" + n + ", 5)", x.packet(n, 5), n);
            }
        }
    }
}
