/** The edges of promise 7: what can be sent, what is refused, and to whom a frame goes. */
public final class SendEdgesTest {
    private static final Due DUE = new Due();

    public static void main(String[] args) {
        stationsAtBothEnds();
        macsAtBothEnds();
        typesAtBothEnds();
        fortyBytesAtMost();
        tooLongTapeStays();
        fullTapeStays();
        refusedSendTeachesNothing();
        howManyPackets();
        oddFirstByteGoesToAll();
        allOthersOfTheNetThere();
        toTheSenderItself();
        toOneThatMovedAway();
        toAnotherEndpoint();
        learnsWhateverItSends();
        DUE.end();
    }

    private static void stationsAtBothEnds() {
        DUE.says("send: NONE: no such station");
        for (int made = 0; made <= 3; made++) {
            OverlayFabric x = new OverlayFabric();
            for (int s = 0; s < made; s++) {
                x.station(s, 7, s);
            }
            for (int s = -1; s <= 4; s++) {
                boolean right = s >= 0 && s < made;
                DUE.eq("of " + made + ": send(" + s + ", ALL, 0)", x.send(s, Packets.ALL, 0), right ? made - 1 : -1);
            }
        }
    }

    private static void macsAtBothEnds() {
        DUE.says("send: a MAC (48 bits). NONE: no such MAC");
        long[] macs = {0, 1, 0xFFFFFFFFL, 0x100000000L, 0x7FFFFFFFFFFFL, 0x800000000000L, 0xFFFFFFFFFFFEL,
            0xFFFFFFFFFFFFL};
        for (long to : macs) {
            OverlayFabric x = pair();
            DUE.eq("send(0, " + to + ", 0)", x.send(0, to, 0), 0);
            DUE.frame(x, 1, 0, Packets.frame(to, Packets.mac(1), 0));
        }
        for (long to : new long[] {-1, 1L << 48, (1L << 48) + 1, 1L << 62, Long.MAX_VALUE, Long.MIN_VALUE}) {
            OverlayFabric x = pair();
            DUE.eq("send(0, " + to + ", 0)", x.send(0, to, 0), -1);
            DUE.eq("got(1)", x.got(1), 0);
        }
    }

    /** Two stations at one endpoint. */
    private static OverlayFabric pair() {
        OverlayFabric x = new OverlayFabric();
        x.station(0, 7, 1);
        x.station(0, 7, 2);
        return x;
    }

    private static void typesAtBothEnds() {
        DUE.says("send: of a type (16 bits). NONE: no such type");
        for (int type : new int[] {-65536, -1, 0, 1, 255, 256, 32768, 65534, 65535, 65536, 65537}) {
            OverlayFabric x = pair();
            boolean right = type >= 0 && type <= 65535;
            DUE.eq("send(0, 0, " + type + ")", x.send(0, 0, type), right ? 0 : -1);
            DUE.eq("got(1)", x.got(1), right ? 1 : 0);
            DUE.eq("frame(1, 0, 12)", x.frame(1, 0, 12), right ? type / 256 : -1);
            DUE.eq("frame(1, 0, 13)", x.frame(1, 0, 13), right ? type % 256 : -1);
        }
    }

    private static void fortyBytesAtMost() {
        DUE.says("send: NONE: the tape has more than 40.");
        for (int bytes = 0; bytes <= 120; bytes++) {
            OverlayFabric x = pair();
            for (int i = 0; i < bytes; i++) {
                x.feed(200 - i);
            }
            DUE.eq("send with " + bytes, x.send(0, 0, 0), bytes <= 40 ? 0 : -1);
            DUE.eq("length(1, 0)", x.length(1, 0), bytes <= 40 ? 14 + bytes : -1);
            for (int i = 0; i < bytes && bytes <= 40; i++) {
                DUE.eq("frame(1, 0, " + (14 + i) + ")", x.frame(1, 0, 14 + i), 200 - i);
            }
            // The tape is empty behind a frame that went, so the next one has no bytes.
            DUE.eq("send again", x.send(0, 0, 0), bytes <= 40 ? 0 : -1);
            DUE.eq("length(1, 0)", x.length(1, 0), bytes <= 40 ? 14 : -1);
        }
    }

    private static void tooLongTapeStays() {
        DUE.says("send: NONE, the tape staying: the tape has more than 40.");
        // 42 bytes, the shortest packet: sent it is too long, but it can be injected still.
        int[] packet = Packets.gre(0, 1, 0, 7, Packets.frame(Packets.ALL, Packets.mac(3), 5));
        OverlayFabric x = pair();
        x.station(1, 7, 3);
        Packets.feed(x, packet);
        DUE.eq("send(0, 0, 0)", x.send(0, 0, 0), -1);
        DUE.eq("inject(0)", x.inject(0), 0);
        DUE.frame(x, 1, 0, Packets.frame(Packets.ALL, Packets.mac(3), 5));
        // 41 bytes leave room for 79.
        Packets.feed(x, new int[41]);
        DUE.eq("send(0, 0, 0)", x.send(0, 0, 0), -1);
        for (int i = 0; i < 79; i++) {
            DUE.yes("feed " + i, x.feed(0));
        }
        DUE.no("feed 79", x.feed(0));
    }

    private static void fullTapeStays() {
        DUE.says("send: NONE, the tape staying: no such station, MAC, type");
        int[] bytes = new int[40];
        for (int i = 0; i < 40; i++) {
            bytes[i] = 3 * i;
        }
        OverlayFabric x = pair();
        Packets.feed(x, bytes);
        DUE.eq("send(2, 0, 0)", x.send(2, 0, 0), -1);
        DUE.eq("send(0, -1, 0)", x.send(0, -1, 0), -1);
        DUE.eq("send(0, 0, 65536)", x.send(0, 0, 65536), -1);
        DUE.eq("send(0, 0, 0)", x.send(0, 0, 0), 0);
        DUE.frame(x, 1, 0, Packets.frame(0, Packets.mac(1), 0, bytes));
    }

    private static void refusedSendTeachesNothing() {
        DUE.says("send: NONE, the tape staying: the tape has more than 40.");
        OverlayFabric x = pair();
        x.station(1, 7, 3);
        Packets.feed(x, new int[41]);
        DUE.eq("send(0, ALL, 0)", x.send(0, Packets.ALL, 0), -1);
        DUE.eq("known(0)", x.known(0), 0);
        DUE.eq("flying()", x.flying(), 0);
        DUE.eq("got(1)", x.got(1), 0);
        DUE.counts(x, 0, 0, 0, 0, 0, 0, 0, 0, 0, 0, 0, 0, 0);
        x.inject(3);
        x.send(0, Packets.ALL, 0);
        DUE.eq("the next packet's number", x.packet(0, 5), 0);
    }

    private static void howManyPackets() {
        DUE.says("send: how many packets went out; a packet with it goes to each other endpoint that has the net");
        for (int others = 0; others <= 7; others++) {
            OverlayFabric x = new OverlayFabric();
            x.begin(8);
            x.station(7, 7, 99);
            // By numbers, even where stations came the other way round; a second one makes no second packet.
            for (int e = others - 1; e >= 0; e--) {
                x.station(e, 7, e);
                x.station(e, 7, 10 + e);
            }
            x.station(7, 8, 50);
            DUE.eq("send(0, ALL, 0) to " + others, x.send(0, Packets.ALL, 0), others);
            DUE.eq("flying()", x.flying(), others);
            DUE.eq("count(0)", x.count(0), others);
            for (int e = 0; e < others; e++) {
                DUE.eq("packet(" + e + ", 19)", x.packet(e, 19), 1 + e);
                DUE.eq("packet(" + e + ", 5)", x.packet(e, 5), e);
            }
        }
    }

    private static void oddFirstByteGoesToAll() {
        DUE.says("if the MAC to is odd in its first byte, or not known");
        for (int first = 0; first < 256; first++) {
            OverlayFabric x = pair();
            x.station(1, 7, 3);
            x.station(2, 7, 4);
            // A foreign MAC is learnt at endpoint 1, if it is even; then the same one is sent to.
            long mac = ((long) first << 40) + 9;
            int[] packet = Packets.gre(0, 1, 0, 7, Packets.frame(Packets.ALL, mac, 5));
            DUE.eq("from first byte " + first, Packets.inject(x, 0, packet), first % 2 == 0 ? 0 : 8);
            int before = x.got(1);
            DUE.eq("to first byte " + first, x.send(0, mac, 0), first % 2 == 0 ? 1 : 2);
            DUE.eq("got(1)", x.got(1) - before, first % 2);
        }
    }

    private static void allOthersOfTheNetThere() {
        DUE.says("it comes to all other stations of the net there");
        OverlayFabric x = new OverlayFabric();
        for (int s = 0; s < 32; s++) {
            x.station(s % 8 == 7 ? 1 : 0, s % 8 == 6 ? 8 : 7, s);
        }
        DUE.eq("send(16, ALL, 0)", x.send(16, Packets.ALL, 0), 1);
        for (int s = 0; s < 32; s++) {
            DUE.eq("got(" + s + ")", x.got(s), s % 8 >= 6 || s == 16 ? 0 : 1);
        }
        DUE.eq("send(6, ALL, 0)", x.send(6, Packets.ALL, 0), 0);
        DUE.eq("got(30)", x.got(30), 1);
        DUE.eq("got(6)", x.got(6), 0);
        DUE.eq("got(0)", x.got(0), 1);
    }

    private static void toTheSenderItself() {
        DUE.says("it comes to that alone (not when that is the sender)");
        OverlayFabric x = pair();
        x.station(1, 7, 3);
        DUE.eq("send(0, 1, 0)", x.send(0, Packets.mac(1), 0), 0);
        DUE.eq("got(0)", x.got(0), 0);
        DUE.eq("got(1)", x.got(1), 0);
        DUE.eq("flying()", x.flying(), 0);
        DUE.eq("known(0)", x.known(0), 1);
    }

    private static void toOneThatMovedAway() {
        DUE.says("it comes to that alone (not when it moved away)");
        OverlayFabric x = pair();
        x.station(1, 7, 3);
        x.send(1, Packets.mac(2), 0);
        x.move(1, 1);
        DUE.eq("away: send(0, 2, 0)", x.send(0, Packets.mac(2), 0), 0);
        DUE.eq("got(1)", x.got(1), 0);
        DUE.eq("got(2)", x.got(2), 0);
        DUE.eq("flying()", x.flying(), 0);
        x.move(1, 0);
        DUE.eq("back: send(0, 2, 0)", x.send(0, Packets.mac(2), 0), 0);
        DUE.eq("got(1)", x.got(1), 1);
    }

    private static void toAnotherEndpoint() {
        DUE.says("If it is at another endpoint: a packet goes there.");
        OverlayFabric x = new OverlayFabric();
        x.begin(8);
        x.station(0, 7, 1);
        x.station(0, 7, 2);
        x.station(7, 7, 3);
        x.station(3, 7, 4);
        x.send(2, Packets.ALL, 0);
        DUE.eq("deliver(0)", x.deliver(0), 0);
        x.lose(0);
        DUE.eq("send(0, 3, 0)", x.send(0, Packets.mac(3), 0), 1);
        DUE.eq("flying()", x.flying(), 1);
        DUE.packet(x, 0, Packets.udp(0, 0, 7, 7, Packets.frame(Packets.mac(3), Packets.mac(1), 0)));
        DUE.eq("got(1)", x.got(1), 1);
        // Known is known: even if the endpoint has not the net any more, or the station is here by now.
        x.move(2, 0);
        DUE.eq("send(0, 3, 0)", x.send(0, Packets.mac(3), 0), 1);
        DUE.eq("packet(1, 19)", x.packet(1, 19), 8);
        DUE.eq("got(2)", x.got(2), 0);
    }

    private static void learnsWhateverItSends() {
        DUE.says("A STATION SENDS a frame: its endpoint learns the MAC from (at that station)");
        for (long to : new long[] {0, Packets.mac(1), Packets.mac(2), Packets.ALL}) {
            OverlayFabric x = pair();
            x.send(0, to, 0);
            DUE.eq("known(0)", x.known(0), 1);
            DUE.knows(x, 0, 0, 7, Packets.mac(1), -1, 0, 0);
            DUE.eq("known(1)", x.known(1), 0);
        }
    }
}
