/** The edges of promises 3 and 4: how many stations, which nets and MACs, and where stations can be. */
public final class StationEdgesTest {
    private static final Due DUE = new Due();

    public static void main(String[] args) {
        thirtyTwoAtMost();
        fullRefusalChangesNothing();
        lastStationIsLikeOthers();
        netsAtBothEnds();
        macsOfFourBytes();
        sameOnesAgain();
        moveAtBothEnds();
        moveToWhereItIs();
        knownStaysBehindMove();
        hasNetAsLongAsOneIsThere();
        movedFromNowOn();
        DUE.end();
    }

    /** 32 stations of nets of their own, at the endpoints in turn. */
    private static OverlayFabric full() {
        OverlayFabric x = new OverlayFabric();
        for (int s = 0; s < 32; s++) {
            x.station(s % 4, s, s);
        }
        return x;
    }

    private static void thirtyTwoAtMost() {
        DUE.says("station: A new station: its number. NONE: there are 32.");
        OverlayFabric x = new OverlayFabric();
        for (int s = 0; s < 32; s++) {
            DUE.eq("got(" + s + ") before it is made", x.got(s), -1);
            DUE.eq("station " + s, x.station(3, 7, s), s);
            DUE.eq("got(" + s + ")", x.got(s), 0);
        }
        DUE.eq("station 32", x.station(3, 7, 32), -1);
        DUE.eq("station 32 again", x.station(0, 0, 0), -1);
        DUE.eq("got(32)", x.got(32), -1);
        // begin takes them all away, so that there is room again, for as many.
        x.begin(2);
        for (int s = 0; s < 32; s++) {
            DUE.eq("station " + s + " behind begin", x.station(1, 7, s), s);
        }
        DUE.eq("station 32 behind begin", x.station(1, 7, 32), -1);
    }

    private static void fullRefusalChangesNothing() {
        DUE.says("station: NONE: there are 32.");
        OverlayFabric x = full();
        DUE.eq("station(0, 1, 99)", x.station(0, 1, 99), -1);
        DUE.same("station(0, 1, 99)", State.of(x), State.of(full()));
    }

    private static void lastStationIsLikeOthers() {
        DUE.says("STATIONS, 32 at most, by numbers");
        OverlayFabric x = new OverlayFabric();
        for (int s = 0; s < 32; s++) {
            x.station(s == 30 ? 1 : s == 31 ? 2 : 0, s < 30 ? 5 : 7, s);
        }
        DUE.eq("send(32, ALL, 1)", x.send(32, Packets.ALL, 1), -1);
        DUE.eq("send(31, ALL, 1)", x.send(31, Packets.ALL, 1), 1);
        DUE.eq("deliver(0)", x.deliver(0), 0);
        DUE.eq("got(30)", x.got(30), 1);
        DUE.eq("send(30, 31, 1)", x.send(30, Packets.mac(31), 1), 1);
        DUE.eq("deliver(0)", x.deliver(0), 0);
        DUE.eq("got(31)", x.got(31), 1);
        DUE.frame(x, 31, 0, Packets.frame(Packets.mac(31), Packets.mac(30), 1));
        DUE.knows(x, 2, 0, 7, Packets.mac(31), -1, 31, 0);
        DUE.yes("move(31, 3)", x.move(31, 3));
        DUE.no("move(32, 3)", x.move(32, 3));
        DUE.eq("send(0, ALL, 1)", x.send(0, Packets.ALL, 1), 0);
        DUE.eq("got(29)", x.got(29), 1);
    }

    private static void netsAtBothEnds() {
        DUE.says("a NET 0 .. 16777215");
        OverlayFabric x = new OverlayFabric();
        int[] nets = {0, 1, 16777214, 16777215};
        for (int e = 0; e < 2; e++) {
            DUE.eq("station(" + e + ", -1, 0)", x.station(e, -1, 0), -1);
            for (int n = 0; n < nets.length; n++) {
                DUE.eq("station(" + e + ", " + nets[n] + ", 0)", x.station(e, nets[n], 4 * e + n), 4 * e + n);
            }
            DUE.eq("station(" + e + ", 16777216, 0)", x.station(e, 16777216, 0), -1);
        }
        for (int n = 0; n < nets.length; n++) {
            DUE.eq("send(" + n + ", ALL, 0)", x.send(n, Packets.ALL, 0), 1);
            DUE.eq("packet(0, 32)", x.packet(0, 32), nets[n] / 65536);
            DUE.eq("packet(0, 33)", x.packet(0, 33), nets[n] / 256 % 256);
            DUE.eq("packet(0, 34)", x.packet(0, 34), nets[n] % 256);
            DUE.eq("deliver(0)", x.deliver(0), 0);
            DUE.eq("knows(0, " + n + ", 0)", x.knows(0, n, 0), nets[n]);
            DUE.eq("knows(1, " + n + ", 0)", x.knows(1, n, 0), nets[n]);
            for (int s = 0; s < 8; s++) {
                DUE.eq("net " + nets[n] + ": got(" + s + ")", x.got(s), s > 3 && s <= 4 + n ? 1 : 0);
            }
        }
    }

    private static void macsOfFourBytes() {
        DUE.says("a MAC: 2, 0, and four bytes");
        int[] fours = {0, 1, 255, 256, -1, Integer.MIN_VALUE, Integer.MAX_VALUE, 0x01020304, 0xFEFDFCFB};
        for (int four : fours) {
            OverlayFabric x = new OverlayFabric();
            x.station(0, 7, four);
            x.station(0, 7, 77);
            x.send(0, 0, 0);
            int[] want = {2, 0, four >>> 24, four >>> 16 & 255, four >>> 8 & 255, four & 255};
            for (int i = 0; i < 6; i++) {
                DUE.eq("MAC " + four + ", byte " + i, x.frame(1, 0, 6 + i), want[i]);
            }
            DUE.eq("MAC " + four, x.knows(0, 0, 1), 0x020000000000L + (four & 0xFFFFFFFFL));
            DUE.eq("send back to MAC " + four, x.send(1, 0x020000000000L + (four & 0xFFFFFFFFL), 0), 0);
            DUE.eq("got(0)", x.got(0), 1);
        }
    }

    private static void sameOnesAgain() {
        DUE.says("station: A new station: its number.");
        OverlayFabric x = new OverlayFabric();
        DUE.eq("station(0, 7, 1)", x.station(0, 7, 1), 0);
        DUE.eq("station(0, 7, 1) again", x.station(0, 7, 1), 1);
        DUE.eq("station(1, 7, 1)", x.station(1, 7, 1), 2);
        DUE.eq("send(0, ALL, 0)", x.send(0, Packets.ALL, 0), 1);
        DUE.eq("got(1)", x.got(1), 1);
    }

    private static void moveAtBothEnds() {
        DUE.says("move: A station is at another endpoint from now on. False: none such, no such endpoint.");
        OverlayFabric x = new OverlayFabric();
        x.begin(8);
        DUE.no("move(0, 1) while there is none", x.move(0, 1));
        x.station(3, 7, 0);
        x.station(3, 7, 1);
        DUE.no("move(-1, 0)", x.move(-1, 0));
        DUE.no("move(2, 0)", x.move(2, 0));
        DUE.no("move(0, -1)", x.move(0, -1));
        DUE.no("move(0, 8)", x.move(0, 8));
        DUE.yes("move(0, 0)", x.move(0, 0));
        DUE.yes("move(1, 7)", x.move(1, 7));
        DUE.eq("send(0, ALL, 0)", x.send(0, Packets.ALL, 0), 1);
        DUE.packet(x, 0, Packets.udp(0, 0, 7, 7, Packets.frame(Packets.ALL, Packets.mac(0), 0)));
    }

    private static void moveToWhereItIs() {
        DUE.says("move: False: none such, no such endpoint.");
        OverlayFabric x = State.busy();
        DUE.yes("move(2, 1), where it is", x.move(2, 1));
        DUE.same("move(2, 1)", State.of(x), State.of(State.busy()));
    }

    private static void knownStaysBehindMove() {
        DUE.says("move: (what is known of it stays)");
        OverlayFabric x = new OverlayFabric();
        x.station(0, 7, 1);
        x.station(1, 7, 2);
        x.send(0, Packets.ALL, 0);
        x.deliver(0);
        x.tick(9);
        DUE.yes("move(0, 2)", x.move(0, 2));
        DUE.eq("known(0)", x.known(0), 1);
        DUE.knows(x, 0, 0, 7, Packets.mac(1), -1, 0, 9);
        DUE.eq("known(1)", x.known(1), 1);
        DUE.knows(x, 1, 0, 7, Packets.mac(1), 0, -1, 9);
        DUE.eq("known(2)", x.known(2), 0);
        DUE.eq("count(11)", x.count(11), 2);
    }

    private static void hasNetAsLongAsOneIsThere() {
        DUE.says("An endpoint HAS a net when a station of it is there.");
        OverlayFabric x = new OverlayFabric();
        x.station(0, 7, 1);
        x.station(1, 7, 2);
        x.station(1, 7, 3);
        x.station(1, 8, 4);
        x.station(2, 8, 5);
        DUE.eq("two are there: send(0, ALL, 0)", x.send(0, Packets.ALL, 0), 1);
        x.move(1, 3);
        DUE.eq("one is there, and one at 3: send(0, ALL, 0)", x.send(0, Packets.ALL, 0), 2);
        x.move(2, 3);
        DUE.eq("none is there, two at 3: send(0, ALL, 0)", x.send(0, Packets.ALL, 0), 1);
        DUE.eq("packet(3, 19)", x.packet(3, 19), 4);
        x.move(2, 1);
        DUE.eq("one came back: send(0, ALL, 0)", x.send(0, Packets.ALL, 0), 2);
        DUE.eq("packet(4, 19)", x.packet(4, 19), 2);
        DUE.eq("packet(5, 19)", x.packet(5, 19), 4);
    }

    private static void movedFromNowOn() {
        DUE.says("move: A station is at another endpoint from now on");
        OverlayFabric x = new OverlayFabric();
        x.station(0, 7, 1);
        x.station(1, 7, 2);
        x.station(2, 7, 3);
        x.send(0, Packets.ALL, 0);
        x.move(0, 3);
        // What was sent before comes from an endpoint that has not the net any more.
        DUE.eq("deliver(0)", x.deliver(0), 7);
        x.move(1, 0);
        x.move(2, 1);
        DUE.eq("deliver(0) to endpoint 2, which has lost the net", x.deliver(0), 6);
        DUE.eq("send(1, ALL, 0)", x.send(1, Packets.ALL, 0), 2);
        DUE.eq("packet(0, 15)", x.packet(0, 15), 1);
        DUE.eq("deliver(0)", x.deliver(0), 0);
        DUE.eq("deliver(0)", x.deliver(0), 0);
        DUE.eq("got(0)", x.got(0), 1);
        DUE.eq("got(2)", x.got(2), 1);
    }
}
