/** Promises 16 to 19: tick, forget, known and knows; and how an endpoint learns. */
public final class MemoryTest {
    private static final Due DUE = new Due();

    public static void main(String[] args) {
        noneSuch();
        ages();
        endsOfTick();
        forget();
        orderOfLearning();
        oldestGoes();
        sameAgeFirstGoes();
        anewTakesNoRoom();
        goneBeforeItIsLookedUp();
        DUE.end();
    }

    private static void noneSuch() {
        OverlayFabric x = new OverlayFabric();
        x.station(0, 7, 1);
        x.send(0, 0, 0);
        for (int e : new int[] {-1, 4, 8, Integer.MIN_VALUE, Integer.MAX_VALUE}) {
            DUE.eq("known(" + e + ")", x.known(e), -1);
            DUE.eq("forget(" + e + ")", x.forget(e), -1);
            DUE.eq("knows(" + e + ", 0, 0)", x.knows(e, 0, 0), -1);
        }
        DUE.eq("knows(1, 0, 0)", x.knows(1, 0, 0), -1);
        for (int k : new int[] {-1, 1, 24, Integer.MIN_VALUE, Integer.MAX_VALUE}) {
            DUE.eq("knows(0, " + k + ", 0)", x.knows(0, k, 0), -1);
        }
        for (int what : new int[] {-1, 5, Integer.MIN_VALUE, Integer.MAX_VALUE}) {
            DUE.eq("knows(0, 0, " + what + ")", x.knows(0, 0, what), -1);
        }
        for (int ticks : new int[] {0, -1, 1001, Integer.MIN_VALUE, Integer.MAX_VALUE}) {
            DUE.eq("tick(" + ticks + ")", x.tick(ticks), -1);
        }
        DUE.knows(x, 0, 0, 7, Packets.mac(1), -1, 0, 0);
    }

    private static void ages() {
        OverlayFabric x = new OverlayFabric();
        x.station(0, 7, 1);
        x.station(0, 7, 2);
        x.station(1, 7, 3);
        x.send(0, Packets.ALL, 0);
        x.deliver(0);
        DUE.eq("tick(100)", x.tick(100), 0);
        x.send(1, Packets.ALL, 0);
        DUE.eq("tick(200)", x.tick(200), 0);
        DUE.knows(x, 0, 0, 7, Packets.mac(1), -1, 0, 300);
        DUE.knows(x, 0, 1, 7, Packets.mac(2), -1, 1, 200);
        DUE.knows(x, 1, 0, 7, Packets.mac(1), 0, -1, 300);
        x.send(0, Packets.mac(1), 0);
        DUE.knows(x, 0, 0, 7, Packets.mac(1), -1, 0, 0);
        DUE.eq("tick(1)", x.tick(1), 1);
        DUE.eq("known(1)", x.known(1), 0);
        DUE.eq("tick(99)", x.tick(99), 0);
        DUE.eq("tick(1)", x.tick(1), 1);
        DUE.eq("known(0)", x.known(0), 1);
        DUE.knows(x, 0, 0, 7, Packets.mac(1), -1, 0, 101);
        // A frame to what is known no more goes to all.
        DUE.eq("send(0, 2, 0)", x.send(0, Packets.mac(2), 0), 1);
    }

    private static void endsOfTick() {
        OverlayFabric x = new OverlayFabric();
        for (int e = 0; e < 4; e++) {
            x.station(e, e, e);
            x.send(e, 0, 0);
        }
        x.station(3, 3, 9);
        x.send(4, 0, 0);
        DUE.eq("tick(1)", x.tick(1), 0);
        DUE.eq("tick(1000)", x.tick(1000), 5);
        DUE.eq("tick(1000)", x.tick(1000), 0);
        DUE.eq("known(3)", x.known(3), 0);
        x.send(0, 0, 0);
        DUE.eq("tick(301)", x.tick(301), 1);
        x.send(0, 0, 0);
        DUE.eq("tick(300)", x.tick(300), 0);
        DUE.eq("knows(0, 0, 4)", x.knows(0, 0, 4), 300);
        DUE.eq("count(12)", x.count(12), 0);
        DUE.eq("count(11)", x.count(11), 7);
        x.begin(8);
        x.station(7, 7, 7);
        x.send(0, 0, 0);
        DUE.eq("tick(301)", x.tick(301), 1);
    }

    private static void forget() {
        OverlayFabric x = new OverlayFabric();
        x.station(0, 7, 1);
        x.station(0, 7, 2);
        x.station(1, 7, 3);
        x.send(0, 0, 0);
        x.send(1, 0, 0);
        x.send(2, 0, 0);
        DUE.eq("forget(0)", x.forget(0), 2);
        DUE.eq("known(0)", x.known(0), 0);
        DUE.eq("knows(0, 0, 0)", x.knows(0, 0, 0), -1);
        DUE.eq("known(1)", x.known(1), 1);
        DUE.eq("forget(0)", x.forget(0), 0);
        DUE.eq("count(11)", x.count(11), 3);
        x.send(0, 0, 0);
        DUE.eq("count(11)", x.count(11), 4);
        DUE.eq("known(0)", x.known(0), 1);
    }

    private static void orderOfLearning() {
        OverlayFabric x = new OverlayFabric();
        x.station(0, 7, 1);
        x.station(0, 7, 2);
        x.station(1, 7, 3);
        x.station(2, 7, 3);
        x.send(0, 0, 0);
        x.send(2, Packets.ALL, 0);
        x.send(3, Packets.ALL, 0);
        x.send(1, 0, 0);
        // In flight: two of station 0, then 1 to 0, 1 to 2, 2 to 0, 2 to 1, then two of station 1.
        x.tick(5);
        DUE.eq("twice(2)", x.twice(2), 0);
        DUE.knows(x, 0, 0, 7, Packets.mac(1), -1, 0, 5);
        DUE.knows(x, 0, 1, 7, Packets.mac(2), -1, 1, 5);
        DUE.knows(x, 0, 2, 7, Packets.mac(3), 1, -1, 0);
        DUE.eq("count(11)", x.count(11), 5);
        x.tick(1);
        // Learnt again at the same place it stays, with a new age.
        x.send(0, Packets.mac(1), 0);
        DUE.knows(x, 0, 0, 7, Packets.mac(1), -1, 0, 0);
        DUE.knows(x, 0, 1, 7, Packets.mac(2), -1, 1, 6);
        DUE.eq("count(11)", x.count(11), 5);
        x.twice(2);
        DUE.knows(x, 0, 2, 7, Packets.mac(3), 1, -1, 0);
        DUE.eq("count(11)", x.count(11), 5);
        x.send(1, Packets.mac(2), 0);
        x.tick(1);
        // Learnt anew at another endpoint it goes to the end; the station's own one, too.
        DUE.eq("twice(4)", x.twice(4), 0);
        DUE.knows(x, 0, 2, 7, Packets.mac(3), 2, -1, 0);
        DUE.eq("count(11)", x.count(11), 6);
        x.move(3, 0);
        x.send(3, Packets.mac(3), 0);
        DUE.knows(x, 0, 2, 7, Packets.mac(3), -1, 3, 0);
        DUE.eq("count(11)", x.count(11), 7);
        x.poke(4, 47, 2);
        x.move(3, 2);
        DUE.eq("twice(4)", x.twice(4), 0);
        DUE.knows(x, 0, 0, 7, Packets.mac(2), -1, 1, 1);
        DUE.knows(x, 0, 1, 7, Packets.mac(3), -1, 3, 0);
        DUE.knows(x, 0, 2, 7, Packets.mac(1), 2, -1, 0);
        DUE.eq("known(0)", x.known(0), 3);
        DUE.eq("count(12)", x.count(12), 0);
    }

    private static OverlayFabric full() {
        OverlayFabric x = new OverlayFabric();
        for (int s = 0; s < 32; s++) {
            x.station(0, s, s);
        }
        for (int s = 0; s < 24; s++) {
            x.send(s, 0, 0);
        }
        return x;
    }

    private static void oldestGoes() {
        OverlayFabric x = full();
        x.tick(9);
        for (int s = 0; s < 24; s++) {
            if (s != 5 && s != 17) {
                x.send(s, 0, 0);
            }
        }
        x.tick(1);
        DUE.eq("known(0)", x.known(0), 24);
        DUE.eq("count(12)", x.count(12), 0);
        x.send(24, 0, 0);
        DUE.eq("known(0)", x.known(0), 24);
        DUE.eq("count(12)", x.count(12), 1);
        DUE.eq("count(11)", x.count(11), 25);
        DUE.knows(x, 0, 4, 4, Packets.mac(4), -1, 4, 1);
        DUE.knows(x, 0, 5, 6, Packets.mac(6), -1, 6, 1);
        DUE.knows(x, 0, 16, 17, Packets.mac(17), -1, 17, 10);
        DUE.knows(x, 0, 23, 24, Packets.mac(24), -1, 24, 0);
        x.send(25, 0, 0);
        DUE.knows(x, 0, 16, 18, Packets.mac(18), -1, 18, 1);
        DUE.knows(x, 0, 23, 25, Packets.mac(25), -1, 25, 0);
        DUE.eq("known(0)", x.known(0), 24);
        DUE.eq("count(12)", x.count(12), 2);
    }

    private static void sameAgeFirstGoes() {
        OverlayFabric x = full();
        DUE.eq("known(0)", x.known(0), 24);
        x.send(24, 0, 0);
        DUE.knows(x, 0, 0, 1, Packets.mac(1), -1, 1, 0);
        x.send(0, 0, 0);
        DUE.knows(x, 0, 0, 2, Packets.mac(2), -1, 2, 0);
        DUE.knows(x, 0, 22, 24, Packets.mac(24), -1, 24, 0);
        DUE.knows(x, 0, 23, 0, Packets.mac(0), -1, 0, 0);
        DUE.eq("count(12)", x.count(12), 2);
        DUE.eq("count(11)", x.count(11), 26);
        x.send(24, 0, 0);
        DUE.eq("count(11)", x.count(11), 26);
        DUE.eq("known(1)", x.known(1), 0);
    }

    private static void anewTakesNoRoom() {
        OverlayFabric x = new OverlayFabric();
        for (int s = 0; s < 24; s++) {
            x.station(0, 7, s);
        }
        x.station(0, 7, 3);
        for (int s = 0; s < 24; s++) {
            x.send(s, Packets.mac(s), 0);
        }
        x.tick(1);
        x.send(24, Packets.mac(3), 0);
        DUE.eq("known(0)", x.known(0), 24);
        DUE.eq("count(12)", x.count(12), 0);
        DUE.eq("count(11)", x.count(11), 25);
        DUE.knows(x, 0, 0, 7, Packets.mac(0), -1, 0, 1);
        DUE.knows(x, 0, 3, 7, Packets.mac(4), -1, 4, 1);
        DUE.knows(x, 0, 23, 7, Packets.mac(3), -1, 24, 0);
    }

    private static void goneBeforeItIsLookedUp() {
        OverlayFabric x = new OverlayFabric();
        for (int s = 0; s < 25; s++) {
            x.station(0, 7, s);
        }
        for (int s = 0; s < 24; s++) {
            x.send(s, Packets.mac(s), 0);
        }
        // The sender's MAC takes the room of the very one that the frame goes to: so it goes to all.
        x.send(24, Packets.mac(0), 0);
        DUE.eq("got(0)", x.got(0), 1);
        DUE.eq("got(23)", x.got(23), 1);
        DUE.eq("got(24)", x.got(24), 0);
    }
}
