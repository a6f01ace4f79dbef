/** The edges of promise 23: which numbers there are, and what each of them counts and does not count. */
public final class CountEdgesTest {
    private static final Due DUE = new Due();
    private static final int[] FRAME = Packets.frame(Packets.ALL, Packets.mac(2), 5);
    private static final int[] UDP = Packets.udp(9, 1, 0, 7, FRAME);

    public static void main(String[] args) {
        numbersAtBothEnds();
        sentOnes();
        droppedOnes();
        lostForWantOfRoom();
        learntOnes();
        wentAsTheOldest();
        DUE.end();
    }

    private static OverlayFabric fabric() {
        OverlayFabric x = new OverlayFabric();
        x.station(0, 7, 1);
        x.station(1, 7, 2);
        x.station(2, 7, 3);
        return x;
    }

    private static void numbersAtBothEnds() {
        DUE.says("count: NONE: another number.");
        OverlayFabric x = fabric();
        for (int what = -2; what <= 15; what++) {
            DUE.eq("count(" + what + ")", x.count(what), what >= 0 && what <= 12 ? 0 : -1);
        }
        DUE.eq("count(MIN)", x.count(Integer.MIN_VALUE), -1);
        DUE.eq("count(MAX)", x.count(Integer.MAX_VALUE), -1);
    }

    private static void sentOnes() {
        DUE.says("count: 0 packets that were sent");
        OverlayFabric x = fabric();
        x.send(0, Packets.mac(1), 0);
        DUE.eq("to itself: count(0)", x.count(0), 0);
        x.send(0, Packets.ALL, 0);
        DUE.eq("to all: count(0)", x.count(0), 2);
        x.twice(0);
        x.twice(0);
        x.deliver(0);
        x.lose(0);
        Packets.inject(x, 0, UDP);
        x.send(9, 0, 0);
        DUE.eq("none sent in between: count(0)", x.count(0), 2);
        x.send(0, Packets.mac(2), 0);
        DUE.eq("to one elsewhere: count(0)", x.count(0), 3);
    }

    private static void droppedOnes() {
        DUE.says("count: 1 to 9 dropped for that");
        int[][] packets = {
            {},
            Packets.with(UDP, 11, UDP[11] ^ 1),
            Packets.udp(9, 1, 3, 7, FRAME),
            Packets.sealIp(Packets.with(UDP, 7, 1)),
            Packets.sealIp(Packets.with(UDP, 9, 1)),
            Packets.udp(9, 1, 0, 8, FRAME),
            Packets.udp(9, 3, 0, 7, FRAME),
            Packets.udp(9, 1, 0, 7, Packets.frame(Packets.ALL, Packets.ALL, 5)),
            Packets.udp(9, 1, 0, 7, Packets.frame(Packets.mac(2), Packets.mac(2), 5))};
        for (int why = 1; why <= 9; why++) {
            OverlayFabric x = fabric();
            for (int times = 1; times <= 2; times++) {
                DUE.eq("inject(0)", Packets.inject(x, 0, packets[why - 1]), why);
                for (int what = 0; what <= 12; what++) {
                    int learnt = what == 11 && why == 9 ? 1 : 0;
                    DUE.eq("for " + why + ": count(" + what + ")", x.count(what), what == why ? times : learnt);
                }
            }
            // Refused, or let in: none is counted.
            x.inject(4);
            x.deliver(0);
            x.twice(-1);
            DUE.eq("inject(0)", Packets.inject(x, 0, UDP), 0);
            for (int what = 1; what <= 9; what++) {
                DUE.eq("then: count(" + what + ")", x.count(what), what == why ? 2 : 0);
            }
        }
        // In flight, each coming counts, at whichever endpoint.
        OverlayFabric x = fabric();
        x.send(0, Packets.ALL, 0);
        x.poke(0, 1, 1);
        x.poke(1, 1, 1);
        x.twice(0);
        x.deliver(0);
        x.deliver(0);
        DUE.eq("count(2)", x.count(2), 3);
    }

    private static void lostForWantOfRoom() {
        DUE.says("count: 10 lost for want of room");
        OverlayFabric x = fabric();
        for (int n = 0; n < 25; n++) {
            x.send(0, Packets.ALL, 0);
        }
        DUE.eq("50 in flight: count(10)", x.count(10), 0);
        x.lose(0);
        x.lose(0);
        DUE.eq("two lost by lose: count(10)", x.count(10), 0);
        x.send(0, Packets.ALL, 0);
        DUE.eq("50 in flight: count(10)", x.count(10), 0);
        x.send(0, Packets.ALL, 0);
        DUE.eq("two too many: count(10)", x.count(10), 2);
        // No room on the tape, for a station, or to know one is something else.
        Packets.feed(x, new int[121]);
        DUE.eq("count(10)", x.count(10), 2);
    }

    private static void learntOnes() {
        DUE.says("count: 11 learnt (anew, too; not again at the same place)");
        OverlayFabric x = fabric();
        x.send(0, Packets.ALL, 0);
        DUE.eq("learnt: count(11)", x.count(11), 1);
        x.send(0, Packets.ALL, 0);
        DUE.eq("again: count(11)", x.count(11), 1);
        x.twice(0);
        DUE.eq("at endpoint 1: count(11)", x.count(11), 2);
        x.twice(0);
        DUE.eq("again: count(11)", x.count(11), 2);
        Packets.inject(x, 0, Packets.udp(9, 1, 0, 7, Packets.frame(Packets.ALL, Packets.mac(1), 5)));
        DUE.eq("anew at another endpoint: count(11)", x.count(11), 3);
        x.send(0, Packets.ALL, 0);
        DUE.eq("anew at the station: count(11)", x.count(11), 4);
        x.forget(0);
        DUE.eq("forgotten: count(11)", x.count(11), 4);
        x.send(0, Packets.ALL, 0);
        DUE.eq("learnt once more: count(11)", x.count(11), 5);
        x.tick(301);
        DUE.eq("too old: count(11)", x.count(11), 5);
        x.send(0, Packets.ALL, 0);
        DUE.eq("learnt once more: count(11)", x.count(11), 6);
    }

    private static void wentAsTheOldest() {
        DUE.says("count: 12 that went as the oldest");
        OverlayFabric x = new OverlayFabric();
        for (int s = 0; s < 32; s++) {
            x.station(0, s, s);
        }
        for (int s = 0; s < 32; s++) {
            x.send(s, 0, 0);
            DUE.eq(s + 1 + " learnt: count(12)", x.count(12), Math.max(0, s - 23));
        }
        x.tick(301);
        DUE.eq("too old: count(12)", x.count(12), 8);
        x.send(0, 0, 0);
        x.forget(0);
        DUE.eq("forgotten: count(12)", x.count(12), 8);
        DUE.yes("begin(4)", x.begin(4));
        DUE.eq("begun anew: count(12)", x.count(12), 0);
    }
}
