/** The edges of promises 20 to 22: no frame, six, and more; the first and last byte of the shortest and longest. */
public final class FramesEdgesTest {
    private static final Due DUE = new Due();

    public static void main(String[] args) {
        noneCame();
        latestSixAlone();
        gotGoesOn();
        bytesAtBothEnds();
        longestThatCanCome();
        stationsAtBothEnds();
        senderGetsNone();
        DUE.end();
    }

    private static OverlayFabric came(int frames) {
        OverlayFabric x = new OverlayFabric();
        x.station(0, 7, 1);
        x.station(0, 7, 2);
        for (int n = 0; n < frames; n++) {
            for (int b = 0; b < n % 41; b++) {
                x.feed(n);
            }
            x.send(0, Packets.ALL, n);
        }
        return x;
    }

    private static void noneCame() {
        DUE.says("got: How many frames came to a station; frame, length: NONE: none such.");
        OverlayFabric x = came(0);
        DUE.eq("got(1)", x.got(1), 0);
        for (int k = -1; k <= 6; k++) {
            DUE.eq("length(1, " + k + ")", x.length(1, k), -1);
            DUE.eq("frame(1, " + k + ", 0)", x.frame(1, k, 0), -1);
        }
    }

    private static void latestSixAlone() {
        DUE.says("frame: the k-th latest frame (0 the latest; of the latest six alone, k 0 .. 5)");
        for (int frames = 1; frames <= 13; frames++) {
            OverlayFabric x = came(frames);
            DUE.eq("got(1)", x.got(1), frames);
            for (int k = -1; k <= 13; k++) {
                int n = frames - 1 - k;
                boolean there = k >= 0 && k < 6 && n >= 0;
                DUE.eq("of " + frames + ": length(1, " + k + ")", x.length(1, k), there ? 14 + n : -1);
                DUE.eq("of " + frames + ": frame(1, " + k + ", 13)", x.frame(1, k, 13), there ? n : -1);
            }
        }
    }

    private static void gotGoesOn() {
        DUE.says("got: How many frames came to a station.");
        OverlayFabric x = new OverlayFabric();
        x.station(0, 7, 1);
        x.station(0, 7, 2);
        for (int n = 1; n <= 250; n++) {
            x.send(0, Packets.ALL, n);
            DUE.eq("got(1)", x.got(1), n);
        }
        DUE.eq("frame(1, 5, 13)", x.frame(1, 5, 13), 245);
        DUE.eq("frame(1, 6, 13)", x.frame(1, 6, 13), -1);
    }

    private static void bytesAtBothEnds() {
        DUE.says("frame: Byte i. NONE: none such; length: How many bytes that frame has.");
        for (int bytes : new int[] {0, 1, 39, 40}) {
            OverlayFabric x = new OverlayFabric();
            x.station(0, 7, 1);
            x.station(0, 7, 2);
            for (int b = 0; b < bytes; b++) {
                x.feed(b == bytes - 1 ? 255 : 0);
            }
            x.send(0, 0xFF0000000000L, 0x0100);
            DUE.eq("length(1, 0)", x.length(1, 0), 14 + bytes);
            DUE.eq("frame(1, 0, -1)", x.frame(1, 0, -1), -1);
            DUE.eq("frame(1, 0, 0)", x.frame(1, 0, 0), 255);
            DUE.eq("frame(1, 0, 1)", x.frame(1, 0, 1), 0);
            DUE.eq("frame(1, 0, last)", x.frame(1, 0, 13 + bytes), bytes == 0 ? 0 : 255);
            DUE.eq("frame(1, 0, behind it)", x.frame(1, 0, 14 + bytes), -1);
        }
    }

    private static void longestThatCanCome() {
        DUE.says("length: How many bytes that frame has.");
        // A tape of 120 bytes: no cause drops a frame for being longer than one that is sent.
        int[] heads = {36, 28, 32};
        for (int way = 0; way <= 2; way++) {
            int[] frame = Packets.frame(Packets.ALL, Packets.mac(2), 5, new int[120 - heads[way] - 14]);
            frame[frame.length - 1] = 99;
            OverlayFabric x = new OverlayFabric();
            x.station(0, 7, 1);
            x.station(1, 7, 2);
            int[] packet = way == 0 ? Packets.udp(0, 1, 0, 7, frame)
                : way == 1 ? Packets.gre(0, 1, 0, 7, frame) : Packets.greWithSum(0, 1, 0, 7, frame);
            DUE.eq("bytes of the packet", packet.length, 120);
            DUE.eq("inject(0)", Packets.inject(x, 0, packet), 0);
            DUE.frame(x, 0, 0, frame);
        }
    }

    private static void stationsAtBothEnds() {
        DUE.says("got, frame, length: NONE: none such.");
        OverlayFabric x = new OverlayFabric();
        DUE.eq("got(0) while there is none", x.got(0), -1);
        for (int s = 0; s < 32; s++) {
            x.station(0, 7, s);
        }
        x.send(1, Packets.ALL, 0);
        for (int s : new int[] {-1, 0, 31, 32}) {
            boolean there = s == 0 || s == 31;
            DUE.eq("got(" + s + ")", x.got(s), there ? 1 : -1);
            DUE.eq("length(" + s + ", 0)", x.length(s, 0), there ? 14 : -1);
            DUE.eq("frame(" + s + ", 0, 0)", x.frame(s, 0, 0), there ? 255 : -1);
        }
        // What came goes with begin.
        x.begin(4);
        DUE.eq("got(0)", x.got(0), -1);
        x.station(0, 7, 0);
        DUE.eq("got(0)", x.got(0), 0);
        DUE.eq("length(0, 0)", x.length(0, 0), -1);
    }

    private static void senderGetsNone() {
        DUE.says("it comes to all other stations of the net there");
        OverlayFabric x = came(3);
        DUE.eq("got(0)", x.got(0), 0);
        DUE.eq("length(0, 0)", x.length(0, 0), -1);
    }
}
