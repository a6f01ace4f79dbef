import java.util.ArrayList;
import java.util.List;

/** All that can be read of an object, so that what a call changed, or did not, is seen as a whole. */
final class State {
    private static final int PROBED_NET = 99;

    private final OverlayFabric x;
    private final List<String> rows = new ArrayList<>();

    private State(OverlayFabric x) {
        this.x = x;
    }

    /** Ends the object's use: the tape, the ways, the packets' numbers and the places show in further calls. */
    static List<String> of(OverlayFabric x) {
        State state = new State(x);
        int endpoints = state.lookAtEndpoints();
        int stations = state.lookAtStations();
        state.lookAtFlight();
        for (int what = 0; what < 13; what++) {
            state.row("count(" + what + ")", x.count(what));
        }
        state.probeWays(endpoints);
        state.probePlaces(stations, endpoints);
        return state.rows;
    }

    /** An object that has something of everything, but little, as it may be used for 512 calls alone. */
    static OverlayFabric busy() {
        OverlayFabric x = new OverlayFabric();
        x.station(0, 7, 1);
        x.station(0, 7, 2);
        x.station(1, 7, 3);
        x.station(2, 8, 4);
        x.way(0, 1, 2);
        x.way(3, 2, 1);
        x.feed(5);
        x.send(0, Packets.ALL, 9);
        x.twice(0);
        x.tick(3);
        x.send(2, Packets.mac(1), 8);
        x.inject(3);
        x.feed(6);
        x.feed(7);
        return x;
    }

    private void row(String call, long answer) {
        rows.add(call + " = " + answer);
    }

    private int lookAtEndpoints() {
        int e = 0;
        while (x.known(e) >= 0 && e < 8) {
            int known = x.known(e);
            row("known(" + e + ")", known);
            for (int k = 0; k < known; k++) {
                for (int what = 0; what < 5; what++) {
                    row("knows(" + e + ", " + k + ", " + what + ")", x.knows(e, k, what));
                }
            }
            e++;
        }
        row("endpoints", e);
        return e;
    }

    private int lookAtStations() {
        int s = 0;
        while (x.got(s) >= 0 && s < 32) {
            row("got(" + s + ")", x.got(s));
            for (int k = 0; x.length(s, k) >= 0 && k < 6; k++) {
                StringBuilder bytes = new StringBuilder();
                for (int i = 0; i < x.length(s, k); i++) {
                    bytes.append(' ').append(x.frame(s, k, i));
                }
                rows.add("frame(" + s + ", " + k + ", ..) =" + bytes);
            }
            s++;
        }
        row("stations", s);
        return s;
    }

    private void lookAtFlight() {
        row("flying()", x.flying());
        for (int i = 0; i < x.flying(); i++) {
            int size = x.size(i);
            StringBuilder bytes = new StringBuilder();
            for (int k = 0; k < size; k++) {
                bytes.append(' ').append(x.packet(i, k));
            }
            rows.add("packet(" + i + ", ..) =" + bytes);
        }
    }

    private void probeWays(int endpoints) {
        int[] probes = new int[endpoints];
        for (int e = 0; e < endpoints; e++) {
            probes[e] = x.station(e, PROBED_NET, e);
            row("station(" + e + ", ..)", probes[e]);
        }
        for (int e = 0; e < endpoints; e++) {
            int first = x.flying();
            int sent = x.send(probes[e], Packets.ALL, e);
            row("send(" + probes[e] + ", ..)", sent);
            for (int i = first; i < first + sent; i++) {
                probePacket(i);
            }
        }
    }

    private void probePacket(int i) {
        int size = x.size(i);
        row("size(" + i + ")", size);
        for (int k : new int[] {5, 9, 19, 20, size - 2, size - 1}) {
            row("packet(" + i + ", " + k + ")", x.packet(i, k));
        }
    }

    private void probePlaces(int stations, int endpoints) {
        for (int s = 0; s < stations; s++) {
            row("send(" + s + ", ..)", x.send(s, Packets.ALL, 0));
            row("count(11)", x.count(11));
            for (int e = 0; e < endpoints; e++) {
                row("known(" + e + ")", x.known(e));
            }
        }
    }
}
