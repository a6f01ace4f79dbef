/** The edges of promises 16 to 19, and of learning: nothing known, all room taken, and too old. */
public final class MemoryEdgesTest {
    private static final Due DUE = new Due();

    public static void main(String[] args) {
        ticksAtBothEnds();
        threeHundredStays();
        howManyWent();
        tickOfNothing();
        learntAgainIsNew();
        refusedTickAgesNothing();
        forgetEmptyAndFull();
        knownEmptyAndFull();
        knowsAtBothEnds();
        knowsOfEndpointZeroAndStationZero();
        twentyFourAtMost();
        oldestGoes();
        ofTheSameAgeTheFirst();
        learntAgainIsNoOther();
        anewIsNoOther();
        packetsTakeRoomToo();
        eachEndpointHasItsOwnRoom();
        placesAnew();
        netsAndMacsApart();
        DUE.end();
    }

    /** Stations 0 .. n - 1 at endpoint 0, of nets of their own, each of which has sent. */
    private static OverlayFabric knowing(int n) {
        OverlayFabric x = new OverlayFabric();
        for (int s = 0; s < 32; s++) {
            x.station(0, s, s);
        }
        for (int s = 0; s < n; s++) {
            x.send(s, 0, 0);
        }
        return x;
    }

    private static void ticksAtBothEnds() {
        DUE.says("tick: So many ticks (1 .. 1000) pass. NONE: not such.");
        int[] ticks = {-1, 0, 1, 2, 299, 300, 301, 999, 1000, 1001};
        int[] answers = {-1, -1, 0, 0, 0, 0, 1, 1, 1, -1};
        for (int i = 0; i < ticks.length; i++) {
            OverlayFabric x = knowing(1);
            DUE.eq("tick(" + ticks[i] + ")", x.tick(ticks[i]), answers[i]);
            DUE.eq("known(0)", x.known(0), answers[i] == 1 ? 0 : 1);
            DUE.eq("knows(0, 0, 4)", x.knows(0, 0, 4), answers[i] == 1 ? -1 : answers[i] == 0 ? ticks[i] : 0);
        }
    }

    private static void threeHundredStays() {
        DUE.says("tick: what is older than 300 is known no more");
        OverlayFabric x = knowing(1);
        DUE.eq("tick(150)", x.tick(150), 0);
        DUE.eq("tick(149)", x.tick(149), 0);
        DUE.eq("knows(0, 0, 4)", x.knows(0, 0, 4), 299);
        DUE.eq("tick(1)", x.tick(1), 0);
        DUE.eq("knows(0, 0, 4)", x.knows(0, 0, 4), 300);
        DUE.eq("tick(1)", x.tick(1), 1);
        DUE.eq("known(0)", x.known(0), 0);
        // One tick at a time comes to the same.
        x.send(0, 0, 0);
        for (int age = 1; age <= 300; age++) {
            DUE.eq("tick(1) to " + age, x.tick(1), 0);
        }
        DUE.eq("tick(1) to 301", x.tick(1), 1);
        // The oldest that can be is older by the most that can pass.
        x.send(0, 0, 0);
        x.tick(300);
        DUE.eq("tick(1000)", x.tick(1000), 1);
    }

    private static void howManyWent() {
        DUE.says("tick: How many that were.");
        OverlayFabric x = new OverlayFabric();
        x.begin(8);
        for (int e = 0; e < 8; e++) {
            x.station(e, 7, e);
            x.send(e, Packets.mac(e), 0);
        }
        x.tick(200);
        // Of eight at the eight endpoints, those of the first, a middle and the last are heard again.
        for (int e : new int[] {0, 3, 7}) {
            x.send(e, Packets.mac(e), 0);
        }
        DUE.eq("tick(100)", x.tick(100), 0);
        DUE.eq("tick(1)", x.tick(1), 5);
        for (int e = 0; e < 8; e++) {
            DUE.eq("known(" + e + ")", x.known(e), e == 0 || e == 3 || e == 7 ? 1 : 0);
        }
        DUE.eq("tick(199)", x.tick(199), 0);
        DUE.eq("tick(1)", x.tick(1), 3);
        // Within one endpoint: 24 at once, and every second one.
        OverlayFabric full = knowing(24);
        full.tick(1);
        for (int s = 0; s < 24; s += 2) {
            full.send(s, 0, 0);
        }
        DUE.eq("tick(300)", full.tick(300), 12);
        DUE.eq("known(0)", full.known(0), 12);
        for (int k = 0; k < 12; k++) {
            DUE.knows(full, 0, k, 2 * k, Packets.mac(2 * k), -1, 2 * k, 300);
        }
        DUE.eq("tick(1)", full.tick(1), 12);
        DUE.eq("tick(301) of 24", knowing(24).tick(301), 24);
    }

    private static void tickOfNothing() {
        DUE.says("tick: How many that were.");
        OverlayFabric x = new OverlayFabric();
        DUE.eq("tick(1)", x.tick(1), 0);
        DUE.eq("tick(1000)", x.tick(1000), 0);
        DUE.counts(x, 0, 0, 0, 0, 0, 0, 0, 0, 0, 0, 0, 0, 0);
    }

    private static void learntAgainIsNew() {
        DUE.says("each with how old it is (0 when learnt, or learnt again)");
        OverlayFabric x = new OverlayFabric();
        x.station(0, 7, 1);
        x.station(1, 7, 2);
        x.send(0, Packets.ALL, 0);
        x.twice(0);
        DUE.eq("knows(0, 0, 4)", x.knows(0, 0, 4), 0);
        DUE.eq("knows(1, 0, 4)", x.knows(1, 0, 4), 0);
        x.tick(300);
        x.send(0, Packets.mac(1), 0);
        x.twice(0);
        DUE.eq("knows(0, 0, 4)", x.knows(0, 0, 4), 0);
        DUE.eq("knows(1, 0, 4)", x.knows(1, 0, 4), 0);
        DUE.eq("count(11)", x.count(11), 2);
        DUE.eq("tick(300)", x.tick(300), 0);
        // To be looked up, or sent to, makes nothing younger.
        x.send(1, Packets.mac(1), 0);
        DUE.eq("knows(1, 0, 4)", x.knows(1, 0, 4), 300);
        DUE.eq("tick(1)", x.tick(1), 2);
    }

    private static void refusedTickAgesNothing() {
        DUE.says("tick: NONE: not such.");
        OverlayFabric x = knowing(2);
        x.tick(300);
        DUE.eq("tick(0)", x.tick(0), -1);
        DUE.eq("tick(1001)", x.tick(1001), -1);
        DUE.eq("tick(MAX)", x.tick(Integer.MAX_VALUE), -1);
        DUE.eq("tick(-1)", x.tick(-1), -1);
        DUE.eq("knows(0, 0, 4)", x.knows(0, 0, 4), 300);
        DUE.eq("knows(0, 1, 4)", x.knows(0, 1, 4), 300);
    }

    private static void forgetEmptyAndFull() {
        DUE.says("forget: An endpoint knows nothing any more: how many that were.");
        for (int n : new int[] {0, 1, 23, 24, 25, 32}) {
            OverlayFabric x = knowing(n);
            DUE.eq("of " + n + ": forget(0)", x.forget(0), Math.min(n, 24));
            DUE.eq("known(0)", x.known(0), 0);
            DUE.eq("knows(0, 0, 0)", x.knows(0, 0, 0), -1);
            DUE.eq("forget(0) again", x.forget(0), 0);
            DUE.eq("count(11)", x.count(11), n);
            DUE.eq("count(12)", x.count(12), Math.max(0, n - 24));
        }
        OverlayFabric x = new OverlayFabric();
        for (int e = 0; e < 4; e++) {
            x.station(e, e, e);
            x.send(e, 0, 0);
        }
        DUE.eq("forget(3)", x.forget(3), 1);
        DUE.eq("forget(0)", x.forget(0), 1);
        DUE.eq("forget(-1)", x.forget(-1), -1);
        DUE.eq("forget(4)", x.forget(4), -1);
        DUE.eq("known(1)", x.known(1), 1);
        DUE.eq("known(2)", x.known(2), 1);
    }

    private static void knownEmptyAndFull() {
        DUE.says("known: How many an endpoint knows; 24 at most");
        OverlayFabric x = knowing(0);
        for (int s = 0; s < 32; s++) {
            DUE.eq("known(0)", x.known(0), Math.min(s, 24));
            x.send(s, 0, 0);
        }
        DUE.eq("known(0)", x.known(0), 24);
        DUE.eq("known(3)", x.known(3), 0);
        DUE.eq("known(4)", x.known(4), -1);
        DUE.eq("known(-1)", x.known(-1), -1);
    }

    private static void knowsAtBothEnds() {
        DUE.says("knows: Of the k-th that an endpoint knows. NONE: none such.");
        for (int n : new int[] {0, 1, 23, 24}) {
            OverlayFabric x = knowing(n);
            for (int what = -1; what <= 5; what++) {
                DUE.eq("of " + n + ": knows(0, -1, " + what + ")", x.knows(0, -1, what), -1);
                DUE.eq("of " + n + ": knows(0, " + n + ", " + what + ")", x.knows(0, n, what), -1);
            }
            if (n > 0) {
                DUE.knows(x, 0, 0, 0, Packets.mac(0), -1, 0, 0);
                DUE.knows(x, 0, n - 1, n - 1, Packets.mac(n - 1), -1, n - 1, 0);
                DUE.eq("knows(0, 0, -1)", x.knows(0, 0, -1), -1);
                DUE.eq("knows(0, 0, 5)", x.knows(0, 0, 5), -1);
            }
        }
    }

    private static void knowsOfEndpointZeroAndStationZero() {
        DUE.says("knows: 2 the other endpoint (NONE: at a station), 3 the station (NONE)");
        OverlayFabric x = new OverlayFabric();
        x.station(0, 0, 0);
        x.station(3, 0, -1);
        x.send(0, Packets.ALL, 0);
        x.deliver(0);
        x.send(1, Packets.ALL, 0);
        x.deliver(0);
        DUE.knows(x, 0, 0, 0, 0x020000000000L, -1, 0, 0);
        DUE.knows(x, 0, 1, 0, 0x0200FFFFFFFFL, 3, -1, 0);
        DUE.knows(x, 3, 0, 0, 0x020000000000L, 0, -1, 0);
        DUE.knows(x, 3, 1, 0, 0x0200FFFFFFFFL, -1, 1, 0);
    }

    private static void twentyFourAtMost() {
        DUE.says("24 at most; TO LEARN when 24 others are there: the oldest goes");
        for (int n = 23; n <= 26; n++) {
            OverlayFabric x = knowing(n);
            int gone = Math.max(0, n - 24);
            DUE.eq("of " + n + ": known(0)", x.known(0), n - gone);
            DUE.eq("count(11)", x.count(11), n);
            DUE.eq("count(12)", x.count(12), gone);
            DUE.knows(x, 0, 0, gone, Packets.mac(gone), -1, gone, 0);
            DUE.knows(x, 0, n - gone - 1, n - 1, Packets.mac(n - 1), -1, n - 1, 0);
        }
    }

    private static void oldestGoes() {
        DUE.says("TO LEARN when 24 others are there: the oldest goes");
        for (int oldest : new int[] {0, 1, 12, 22, 23}) {
            OverlayFabric x = knowing(24);
            x.tick(1);
            for (int s = 0; s < 24; s++) {
                if (s != oldest) {
                    x.send(s, 0, 0);
                }
            }
            x.send(24, 0, 0);
            DUE.eq("known(0)", x.known(0), 24);
            DUE.eq("count(12)", x.count(12), 1);
            for (int k = 0; k < 24; k++) {
                int s = k < oldest ? k : k + 1;
                DUE.eq("without " + oldest + ": knows(0, " + k + ", 3)", x.knows(0, k, 3), s);
            }
        }
    }

    private static void ofTheSameAgeTheFirst() {
        DUE.says("the oldest goes (of the same age the one learnt first)");
        // Of the same age are 7 and 15; that 7 was learnt again behind 15 does not make it the later one.
        OverlayFabric x = knowing(24);
        x.tick(1);
        x.send(15, 0, 0);
        x.send(7, 0, 0);
        x.tick(1);
        for (int s = 0; s < 24; s++) {
            if (s != 7 && s != 15) {
                x.send(s, 0, 0);
            }
        }
        x.send(24, 0, 0);
        DUE.eq("knows(0, 7, 3)", x.knows(0, 7, 3), 8);
        DUE.eq("knows(0, 14, 3)", x.knows(0, 14, 3), 15);
        x.send(25, 0, 0);
        DUE.eq("knows(0, 14, 3)", x.knows(0, 14, 3), 16);
        x.send(26, 0, 0);
        DUE.eq("knows(0, 0, 3)", x.knows(0, 0, 3), 1);
        DUE.eq("count(12)", x.count(12), 3);
    }

    private static void learntAgainIsNoOther() {
        DUE.says("TO LEARN when 24 others are there; learnt again at the same place they stay");
        OverlayFabric x = knowing(24);
        x.tick(5);
        for (int s : new int[] {0, 11, 23}) {
            x.send(s, 0, 0);
        }
        DUE.eq("known(0)", x.known(0), 24);
        DUE.eq("count(11)", x.count(11), 24);
        DUE.eq("count(12)", x.count(12), 0);
        for (int k = 0; k < 24; k++) {
            DUE.eq("knows(0, " + k + ", 3)", x.knows(0, k, 3), k);
            DUE.eq("knows(0, " + k + ", 4)", x.knows(0, k, 4), k == 0 || k == 11 || k == 23 ? 0 : 5);
        }
    }

    private static void anewIsNoOther() {
        DUE.says("TO LEARN when 24 others are there; One that is of another place than before is learnt anew.");
        OverlayFabric x = new OverlayFabric();
        for (int s = 0; s < 24; s++) {
            x.station(0, 7, s);
        }
        x.station(1, 7, 90);
        for (int s = 0; s < 24; s++) {
            x.send(s, Packets.mac(s), 0);
        }
        x.tick(1);
        // There are 23 others, so none of them goes, neither the oldest nor the first.
        int[] packet = Packets.gre(0, 1, 0, 7, Packets.frame(Packets.ALL, Packets.mac(5), 0));
        DUE.eq("inject(0)", Packets.inject(x, 0, packet), 0);
        DUE.eq("known(0)", x.known(0), 24);
        DUE.eq("count(11)", x.count(11), 25);
        DUE.eq("count(12)", x.count(12), 0);
        for (int k = 0; k < 23; k++) {
            DUE.eq("knows(0, " + k + ", 3)", x.knows(0, k, 3), k < 5 ? k : k + 1);
        }
        DUE.knows(x, 0, 23, 7, Packets.mac(5), 1, -1, 0);
    }

    private static void packetsTakeRoomToo() {
        DUE.says("TO LEARN when 24 others are there: the oldest goes");
        OverlayFabric x = new OverlayFabric();
        x.station(0, 7, 1);
        x.station(1, 7, 2);
        x.send(0, Packets.mac(1), 0);
        x.send(1, Packets.ALL, 0);
        // One packet, whose MAC from is poked to 1 .. 24 in its last byte.
        int last = 2;
        for (int n = 1; n <= 24; n++) {
            x.poke(0, 47, last ^ 100 + n);
            last = 100 + n;
            DUE.eq("twice(0)", x.twice(0), 0);
            DUE.eq("known(0)", x.known(0), Math.min(24, n + 1));
            DUE.eq("count(12)", x.count(12), n == 24 ? 1 : 0);
        }
        DUE.knows(x, 0, 0, 7, Packets.mac(101), 1, -1, 0);
        DUE.knows(x, 0, 23, 7, Packets.mac(124), 1, -1, 0);
        // A packet that is dropped for 9 makes the oldest go as well.
        x.poke(0, 47, 124 ^ 125);
        x.poke(0, 36, 255 ^ 2);
        x.poke(0, 37, 255);
        x.poke(0, 38, 255);
        x.poke(0, 39, 255);
        x.poke(0, 40, 255);
        x.poke(0, 41, 255 ^ 124);
        DUE.eq("twice(0)", x.twice(0), 9);
        DUE.eq("count(12)", x.count(12), 2);
        DUE.knows(x, 0, 23, 7, Packets.mac(125), 1, -1, 0);
    }

    private static void eachEndpointHasItsOwnRoom() {
        DUE.says("EACH ENDPOINT KNOWS .. 24 at most");
        OverlayFabric x = new OverlayFabric();
        for (int s = 0; s < 32; s++) {
            x.station(s < 16 ? 0 : 1, s, s);
            x.send(s, 0, 0);
        }
        DUE.eq("known(0)", x.known(0), 16);
        DUE.eq("known(1)", x.known(1), 16);
        DUE.eq("count(12)", x.count(12), 0);
        for (int s = 0; s < 16; s++) {
            x.move(s, 1);
            x.send(s, 0, 0);
        }
        DUE.eq("known(0)", x.known(0), 16);
        DUE.eq("known(1)", x.known(1), 24);
        DUE.eq("count(12)", x.count(12), 8);
    }

    private static void placesAnew() {
        DUE.says("One that is of another place than before is learnt anew.");
        OverlayFabric x = new OverlayFabric();
        x.station(0, 7, 1);
        x.station(0, 7, 1);
        x.station(0, 7, 2);
        x.station(0, 7, 2);
        x.station(1, 7, 3);
        x.station(2, 7, 4);
        x.send(2, Packets.mac(2), 0);
        x.send(0, Packets.mac(1), 0);
        DUE.eq("count(11)", x.count(11), 2);
        // From a station to an endpoint, to another endpoint, to a station, and to another station.
        int[] frame = Packets.frame(Packets.ALL, Packets.mac(2), 0);
        x.tick(1);
        DUE.eq("inject(0)", Packets.inject(x, 0, Packets.gre(0, 1, 0, 7, frame)), 0);
        expectAnew(x, 1, -1, 0, 3);
        DUE.eq("inject(0)", Packets.inject(x, 0, Packets.gre(0, 2, 0, 7, frame)), 0);
        expectAnew(x, 2, -1, 1, 5);
        x.send(3, Packets.mac(2), 0);
        expectAnew(x, -1, 3, 0, 7);
        x.send(2, Packets.mac(2), 0);
        expectAnew(x, -1, 2, 1, 9);
        DUE.eq("count(12)", x.count(12), 0);
    }

    /** MAC 2 is behind MAC 1 by now. Then MAC 1's other station sends and gets behind it, for the next time. */
    private static void expectAnew(OverlayFabric x, int endpoint, int station, int stationOfOne, int learnt) {
        DUE.eq("known(0)", x.known(0), 2);
        DUE.knows(x, 0, 0, 7, Packets.mac(1), -1, stationOfOne, 1);
        DUE.knows(x, 0, 1, 7, Packets.mac(2), endpoint, station, 0);
        DUE.eq("count(11)", x.count(11), learnt);
        x.send(1 - stationOfOne, Packets.mac(1), 0);
        DUE.knows(x, 0, 0, 7, Packets.mac(2), endpoint, station, 0);
        x.tick(1);
    }

    private static void netsAndMacsApart() {
        DUE.says("EACH ENDPOINT KNOWS, of nets and MACs, where they are");
        OverlayFabric x = new OverlayFabric();
        x.station(0, 0, 1);
        x.station(0, 16777215, 1);
        x.station(0, 0, 2);
        x.send(0, 0, 0);
        x.send(1, 0, 0);
        x.send(2, 0, 0);
        DUE.eq("known(0)", x.known(0), 3);
        DUE.knows(x, 0, 0, 0, Packets.mac(1), -1, 0, 0);
        DUE.knows(x, 0, 1, 16777215, Packets.mac(1), -1, 1, 0);
        DUE.knows(x, 0, 2, 0, Packets.mac(2), -1, 2, 0);
        DUE.eq("got(0)", x.got(0), 1);
        x.send(2, Packets.mac(1), 0);
        DUE.eq("got(0)", x.got(0), 2);
        DUE.eq("got(1)", x.got(1), 0);
    }
}
