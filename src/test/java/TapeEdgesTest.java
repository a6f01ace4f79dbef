/** The edges of promise 6: which bytes the tape takes, how many, and in which order. */
public final class TapeEdgesTest {
    private static final Due DUE = new Due();

    public static void main(String[] args) {
        everyByte();
        hundredTwentyAtMost();
        refusedBytesTakeNoRoom();
        fullRefusalChangesNothing();
        roomAgainBehindInject();
        roomAgainBehindSend();
        DUE.end();
    }

    private static void everyByte() {
        DUE.says("feed: A byte (0 .. 255) comes behind the tape. False: not such");
        OverlayFabric x = new OverlayFabric();
        x.station(0, 7, 1);
        x.station(0, 7, 2);
        for (int b = -2; b <= 257; b++) {
            DUE.eq("feed(" + b + ")", x.feed(b) ? 1 : 0, b >= 0 && b <= 255 ? 1 : 0);
            if (b >= 0 && b <= 255 && b % 40 == 39 || b == 257) {
                x.send(0, Packets.ALL, 0);
                int bytes = b == 257 ? 16 : 40;
                DUE.eq("length(1, 0)", x.length(1, 0), 14 + bytes);
                DUE.eq("the first of them", x.frame(1, 0, 14), Math.min(b, 255) - bytes + 1);
                DUE.eq("the last of them", x.frame(1, 0, 13 + bytes), Math.min(b, 255));
            }
        }
    }

    private static void hundredTwentyAtMost() {
        DUE.says("feed: 120 at most. False: no room.");
        OverlayFabric x = new OverlayFabric();
        for (int i = 1; i <= 120; i++) {
            DUE.yes("feed(" + i + ")", x.feed(i));
        }
        DUE.no("feed(121)", x.feed(121));
        DUE.no("feed(0)", x.feed(0));
        DUE.no("feed(-1)", x.feed(-1));
    }

    private static void refusedBytesTakeNoRoom() {
        DUE.says("feed: False: not such, no room.");
        OverlayFabric x = new OverlayFabric();
        for (int i = 0; i < 120; i++) {
            DUE.no("feed(256)", x.feed(256));
            DUE.no("feed(-1)", x.feed(-1));
            DUE.yes("feed " + i, x.feed(0));
        }
        DUE.no("feed 120", x.feed(0));
    }

    private static void fullRefusalChangesNothing() {
        DUE.says("feed: False: no room.");
        int[] frame = Packets.frame(Packets.ALL, Packets.mac(2), 5, new int[78]);
        for (int i = 14; i < frame.length; i++) {
            frame[i] = 255 - i;
        }
        OverlayFabric x = new OverlayFabric();
        x.station(0, 7, 1);
        x.station(1, 7, 2);
        Packets.feed(x, Packets.gre(9, 1, 0, 7, frame));
        for (int b = 0; b < 5; b++) {
            DUE.no("feed(" + b + ")", x.feed(b));
        }
        // 120 bytes are told in the packet itself: one more, less, or another one, and it would be dropped.
        DUE.eq("inject(0)", x.inject(0), 0);
        DUE.frame(x, 0, 0, frame);
    }

    private static void roomAgainBehindInject() {
        DUE.says("inject: The tape, which is empty then");
        OverlayFabric x = new OverlayFabric();
        for (int round = 0; round < 3; round++) {
            for (int i = 0; i < 120; i++) {
                DUE.yes("round " + round + ": feed " + i, x.feed(255));
            }
            DUE.no("round " + round + ": feed 120", x.feed(255));
            DUE.eq("inject(0)", x.inject(0), 1);
        }
    }

    private static void roomAgainBehindSend() {
        DUE.says("send: with the tape's bytes, which is empty then");
        OverlayFabric x = new OverlayFabric();
        x.station(0, 7, 1);
        Packets.feed(x, new int[40]);
        DUE.eq("send(0, 0, 0)", x.send(0, 0, 0), 0);
        for (int i = 0; i < 120; i++) {
            DUE.yes("feed " + i, x.feed(1));
        }
        DUE.no("feed 120", x.feed(1));
    }
}
