/** Promise 6: feed; and when send and inject leave the tape as it is. */
public final class TapeTest {
    private static final Due DUE = new Due();

    public static void main(String[] args) {
        wrongBytes();
        roomForHundredTwenty();
        tapeStays();
        DUE.end();
    }

    private static void wrongBytes() {
        OverlayFabric x = new OverlayFabric();
        x.station(0, 7, 1);
        x.station(0, 7, 2);
        for (int b : new int[] {-1, 256, Integer.MIN_VALUE, Integer.MAX_VALUE}) {
            DUE.no("feed(" + b + ")", x.feed(b));
        }
        DUE.yes("feed(0)", x.feed(0));
        DUE.yes("feed(255)", x.feed(255));
        DUE.yes("feed(128)", x.feed(128));
        DUE.eq("send(0, 9, 65535)", x.send(0, 9L << 33, 65535), 0);
        DUE.frame(x, 1, 0, Packets.frame(9L << 33, Packets.mac(1), 65535, 0, 255, 128));
    }

    private static void roomForHundredTwenty() {
        OverlayFabric x = new OverlayFabric();
        for (int i = 0; i < 120; i++) {
            DUE.yes("feed " + i, x.feed(i));
        }
        DUE.no("feed 120", x.feed(1));
        DUE.eq("inject(0)", x.inject(0), 1);
        DUE.yes("feed behind inject", x.feed(1));
        DUE.eq("inject(0)", x.inject(0), 1);
        // The longest packet that can be injected, with a frame longer than one that is sent.
        x.station(0, 7, 1);
        x.station(1, 7, 2);
        int[] frame = Packets.frame(Packets.ALL, Packets.mac(2), 5, new int[78]);
        frame[91] = 77;
        DUE.eq("inject(0)", Packets.inject(x, 0, Packets.gre(9, 1, 0, 7, frame)), 0);
        DUE.frame(x, 0, 0, frame);
    }

    private static void tapeStays() {
        OverlayFabric x = new OverlayFabric();
        x.station(0, 7, 1);
        x.station(0, 7, 2);
        Packets.feed(x, new int[39]);
        x.feed(3);
        x.feed(4);
        DUE.eq("send with 41", x.send(0, 0, 0), -1);
        DUE.eq("inject(-1)", x.inject(-1), -1);
        DUE.eq("inject(4)", x.inject(4), -1);
        DUE.eq("known(0)", x.known(0), 0);
        DUE.eq("inject(3)", x.inject(3), 1);
        Packets.feed(x, new int[39]);
        x.feed(3);
        DUE.eq("send of none", x.send(2, 0, 0), -1);
        DUE.eq("send of none", x.send(-1, 0, 0), -1);
        DUE.eq("send to -1", x.send(0, -1, 0), -1);
        DUE.eq("send to 2^48", x.send(0, Packets.ALL + 1, 0), -1);
        DUE.eq("send to MIN", x.send(0, Long.MIN_VALUE, 0), -1);
        DUE.eq("send of type -1", x.send(0, 0, -1), -1);
        DUE.eq("send of type 65536", x.send(0, 0, 65536), -1);
        DUE.eq("known(0)", x.known(0), 0);
        DUE.eq("got(1)", x.got(1), 0);
        DUE.eq("send with 40", x.send(0, 0, 0), 0);
        DUE.eq("length(1, 0)", x.length(1, 0), 54);
        DUE.eq("frame(1, 0, 53)", x.frame(1, 0, 53), 3);
        DUE.eq("send with none", x.send(0, 0, 0), 0);
        DUE.eq("length(1, 0)", x.length(1, 0), 14);
    }
}
