/** Promise 7: send, and how the packets are laid out. */
public final class SendTest {
    private static final Due DUE = new Due();

    public static void main(String[] args) {
        writtenOutUdp();
        layouts();
        sumsWithCarries();
        toAll();
        toStation();
        toOtherEndpoint();
        oddIsForAll();
        netsApart();
        sameMacTwice();
        DUE.end();
    }

    // Counted by hand from the document, so that the other tests' own counting is tested, too.
    private static void writtenOutUdp() {
        OverlayFabric x = new OverlayFabric();
        x.station(0, 0x010203, 0);
        x.station(1, 0x010203, 1);
        x.feed(170);
        DUE.eq("send(0, 1, 0x0806)", x.send(0, 1, 0x0806), 1);
        // H: 31^6 + 2 * 31^5 = 944761983 = 57663 * 16384 + 11391; 49152 + 11391 = 60543 = 0xEC7F
        DUE.packet(x, 0, new int[] {
            69, 0, 0, 51, 0, 0, 64, 0, 64, 17, 38, 184, 10, 0, 0, 1, 10, 0, 0, 2,
            0xEC, 0x7F, 0x12, 0xB5, 0, 31, 0, 0, 8, 0, 0, 0, 1, 2, 3, 0,
            0, 0, 0, 0, 0, 1, 2, 0, 0, 0, 0, 0, 8, 6, 170});
    }

    private static void layouts() {
        for (int way = 0; way < 3; way++) {
            for (int bytes : new int[] {0, 1, 2, 39, 40}) {
                layout(way, bytes);
            }
        }
    }

    private static void layout(int way, int bytes) {
        OverlayFabric x = new OverlayFabric();
        x.begin(8);
        x.station(7, 16777215, -2);
        x.station(6, 16777215, 5);
        x.way(7, 6, way);
        int[] rest = new int[bytes];
        for (int i = 0; i < bytes; i++) {
            rest[i] = 255 - 3 * i;
        }
        for (int number = 0; number < 2; number++) {
            Packets.feed(x, rest);
            DUE.eq("send(0, ..)", x.send(0, 0xFEDCBA987654L, 0xABCD), 1);
            int[] frame = Packets.frame(0xFEDCBA987654L, Packets.mac(-2), 0xABCD, rest);
            DUE.packet(x, number, way == 0 ? Packets.udp(number, 7, 6, 16777215, frame)
                : way == 1 ? Packets.gre(number, 7, 6, 16777215, frame)
                : Packets.greWithSum(number, 7, 6, 16777215, frame));
        }
        DUE.eq("deliver(1)", x.deliver(1), 0);
        DUE.frame(x, 1, 0, Packets.frame(0xFEDCBA987654L, Packets.mac(-2), 0xABCD, rest));
    }

    // The pairs add up to 0x17ffe8, e9 and ff here: what is above 16 bits, added, gives 0xffff, 0x10000 and 0x10016.
    private static void sumsWithCarries() {
        int[] lasts = {198, 199, 221};
        int[] sums = {0x0000, 0xFFFE, 0xFFE8};
        for (int i = 0; i < lasts.length; i++) {
            OverlayFabric x = new OverlayFabric();
            x.station(0, 7, 1);
            x.station(1, 7, 2);
            x.way(0, 1, 2);
            for (int b = 0; b < 38; b++) {
                x.feed(255);
            }
            Packets.feed(x, 240, lasts[i]);
            DUE.eq("send(0, ALL, 0)", x.send(0, Packets.ALL, 0), 1);
            DUE.eq("packet(0, 24)", x.packet(0, 24), sums[i] >> 8);
            DUE.eq("packet(0, 25)", x.packet(0, 25), sums[i] & 255);
            DUE.eq("deliver(0)", x.deliver(0), 0);
        }
    }

    private static void toAll() {
        OverlayFabric x = new OverlayFabric();
        x.begin(5);
        x.station(2, 7, 1);
        x.station(4, 7, 2);
        x.station(0, 7, 3);
        x.station(2, 7, 4);
        x.station(1, 8, 5);
        x.station(2, 8, 6);
        x.station(4, 7, 7);
        DUE.eq("send(0, 99, 1)", x.send(0, 99, 1), 2);
        DUE.eq("flying()", x.flying(), 2);
        int[] frame = Packets.frame(99, Packets.mac(1), 1);
        DUE.packet(x, 0, Packets.udp(0, 2, 0, 7, frame));
        DUE.packet(x, 1, Packets.udp(1, 2, 4, 7, frame));
        DUE.eq("got(0)", x.got(0), 0);
        DUE.eq("got(3)", x.got(3), 1);
        DUE.frame(x, 3, 0, frame);
        DUE.eq("got(5)", x.got(5), 0);
        DUE.eq("known(2)", x.known(2), 1);
        DUE.knows(x, 2, 0, 7, Packets.mac(1), -1, 0, 0);
        // Another endpoint numbers its packets by itself.
        DUE.eq("send(2, 99, 1)", x.send(2, 99, 1), 2);
        DUE.eq("packet(2, 5)", x.packet(2, 5), 0);
        DUE.eq("packet(3, 5)", x.packet(3, 5), 1);
    }

    private static void toStation() {
        OverlayFabric x = new OverlayFabric();
        x.station(0, 7, 1);
        x.station(0, 7, 2);
        x.station(0, 7, 3);
        x.station(1, 7, 4);
        x.send(1, Packets.mac(2), 0);
        DUE.eq("flying() behind a frame to itself", x.flying(), 0);
        DUE.eq("got(1)", x.got(1), 0);
        DUE.eq("got(0)", x.got(0), 0);
        DUE.eq("send(0, 2, 0)", x.send(0, Packets.mac(2), 0), 0);
        DUE.eq("got(1)", x.got(1), 1);
        DUE.eq("got(2)", x.got(2), 0);
        DUE.eq("flying()", x.flying(), 0);
        DUE.eq("count(0)", x.count(0), 0);
    }

    private static void toOtherEndpoint() {
        OverlayFabric x = new OverlayFabric();
        x.station(0, 7, 1);
        x.station(0, 7, 2);
        x.station(1, 7, 3);
        x.station(2, 7, 4);
        x.send(2, Packets.ALL, 0);
        x.deliver(0);
        x.lose(0);
        DUE.eq("got(1)", x.got(1), 1);
        DUE.eq("send(0, 3, 0)", x.send(0, Packets.mac(3), 0), 1);
        DUE.eq("flying()", x.flying(), 1);
        DUE.eq("packet(0, 19)", x.packet(0, 19), 2);
        DUE.eq("got(1)", x.got(1), 1);
        // It goes there even if the endpoint has lost the net, and is dropped there.
        x.move(2, 2);
        DUE.eq("send(0, 3, 0)", x.send(0, Packets.mac(3), 0), 1);
        DUE.eq("packet(1, 19)", x.packet(1, 19), 2);
        DUE.eq("deliver(1)", x.deliver(1), 6);
    }

    private static void oddIsForAll() {
        OverlayFabric x = new OverlayFabric();
        x.station(0, 7, 1);
        x.station(0, 7, 2);
        x.station(1, 7, 3);
        for (long to : new long[] {0x010000000000L, 0x030000000002L, Packets.ALL}) {
            DUE.eq("send(0, " + to + ", 0)", x.send(0, to, 0), 1);
        }
        DUE.eq("got(1)", x.got(1), 3);
        // Odd in its last byte is no sign of it.
        x.send(1, 0, 0);
        DUE.eq("send(0, 2, 0)", x.send(0, Packets.mac(2), 0), 0);
        x.station(0, 7, 1001);
        x.send(3, 0, 0);
        DUE.eq("send(0, 1001, 0)", x.send(0, Packets.mac(1001), 0), 0);
        DUE.eq("got(3)", x.got(3), 1);
    }

    private static void netsApart() {
        OverlayFabric x = new OverlayFabric();
        x.station(0, 7, 1);
        x.station(0, 8, 2);
        x.station(0, 7, 3);
        x.send(1, 0, 0);
        // MAC 2 is known in net 8 alone, so in net 7 a frame to it goes to all.
        DUE.eq("send(0, 2, 0)", x.send(0, Packets.mac(2), 0), 0);
        DUE.eq("got(1)", x.got(1), 0);
        DUE.eq("got(2)", x.got(2), 1);
        DUE.eq("known(0)", x.known(0), 2);
    }

    private static void sameMacTwice() {
        OverlayFabric x = new OverlayFabric();
        x.station(0, 7, 1);
        x.station(0, 7, 1);
        x.station(0, 7, 2);
        x.send(0, 0, 0);
        x.send(2, 0, 0);
        DUE.knows(x, 0, 0, 7, Packets.mac(1), -1, 0, 0);
        x.send(1, 0, 0);
        DUE.eq("known(0)", x.known(0), 2);
        DUE.knows(x, 0, 0, 7, Packets.mac(2), -1, 2, 0);
        DUE.knows(x, 0, 1, 7, Packets.mac(1), -1, 1, 0);
        DUE.eq("count(11)", x.count(11), 3);
        DUE.eq("got(0)", x.got(0), 2);
        x.send(2, Packets.mac(1), 0);
        DUE.eq("got(0)", x.got(0), 2);
        DUE.eq("got(1)", x.got(1), 3);
    }
}
