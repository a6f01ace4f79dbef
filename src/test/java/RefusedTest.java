import java.util.List;
import java.util.function.ToLongFunction;

/** Every call that is refused, by every cause that the document names: it answers so, and changes nothing. */
public final class RefusedTest {
    private static final Due DUE = new Due();
    private static final List<String> BUSY = State.of(State.busy());
    private static final int MIN = Integer.MIN_VALUE;
    private static final int MAX = Integer.MAX_VALUE;

    // What busy() has: the first number that there is not, of each kind.
    private static final int[] NO_ENDPOINT = {MIN, -1, 4, 8, MAX};
    private static final int[] NO_STATION = {MIN, -1, 4, 32, MAX};
    private static final int[] NO_PACKET = {MIN, -1, 2, 50, MAX};

    public static void main(String[] args) {
        begin();
        station();
        move();
        way();
        feed();
        send();
        comes();
        lose();
        inject();
        poke();
        packet();
        tick();
        endpointsMemory();
        frames();
        count();
        DUE.end();
    }

    private static void refused(String call, long answer, ToLongFunction<OverlayFabric> asked) {
        OverlayFabric x = State.busy();
        DUE.eq(call, asked.applyAsLong(x), answer);
        DUE.same(call, State.of(x), BUSY);
    }

    private static long bit(boolean answer) {
        return answer ? 1 : 0;
    }

    private static void begin() {
        DUE.says("begin: False, and nothing changes: not 2 .. 8.");
        for (int n : new int[] {MIN, -1, 0, 1, 9, 10, MAX}) {
            refused("begin(" + n + ")", 0, x -> bit(x.begin(n)));
        }
    }

    private static void station() {
        DUE.says("station: NONE: no such endpoint, net");
        for (int e : NO_ENDPOINT) {
            refused("station(" + e + ", 7, 9)", -1, x -> x.station(e, 7, 9));
        }
        for (int net : new int[] {MIN, -1, 16777216, MAX}) {
            refused("station(0, " + net + ", 9)", -1, x -> x.station(0, net, 9));
        }
    }

    private static void move() {
        DUE.says("move: False: none such, no such endpoint.");
        for (int s : NO_STATION) {
            refused("move(" + s + ", 1)", 0, x -> bit(x.move(s, 1)));
        }
        for (int e : NO_ENDPOINT) {
            refused("move(0, " + e + ")", 0, x -> bit(x.move(0, e)));
        }
    }

    private static void way() {
        DUE.says("way: False: none such, the same; no such way.");
        for (int e : NO_ENDPOINT) {
            refused("way(" + e + ", 1, 1)", 0, x -> bit(x.way(e, 1, 1)));
            refused("way(0, " + e + ", 1)", 0, x -> bit(x.way(0, e, 1)));
        }
        for (int e = 0; e < 4; e++) {
            int both = e;
            refused("way(" + e + ", " + e + ", 1)", 0, x -> bit(x.way(both, both, 1)));
        }
        for (int way : new int[] {MIN, -1, 3, MAX}) {
            refused("way(0, 1, " + way + ")", 0, x -> bit(x.way(0, 1, way)));
        }
    }

    private static void feed() {
        DUE.says("feed: False: not such");
        for (int b : new int[] {MIN, -1, 256, MAX}) {
            refused("feed(" + b + ")", 0, x -> bit(x.feed(b)));
        }
    }

    private static void send() {
        DUE.says("send: NONE, the tape staying: no such station, MAC, type");
        for (int s : NO_STATION) {
            refused("send(" + s + ", 0, 0)", -1, x -> x.send(s, 0, 0));
        }
        for (long to : new long[] {Long.MIN_VALUE, -1, 1L << 48, Long.MAX_VALUE}) {
            refused("send(0, " + to + ", 0)", -1, x -> x.send(0, to, 0));
        }
        for (int type : new int[] {MIN, -1, 65536, MAX}) {
            refused("send(0, 0, " + type + ")", -1, x -> x.send(0, 0, type));
        }
    }

    private static void comes() {
        for (int i : NO_PACKET) {
            DUE.says("deliver: NONE: none such.");
            refused("deliver(" + i + ")", -1, x -> x.deliver(i));
            DUE.says("twice: The same");
            refused("twice(" + i + ")", -1, x -> x.twice(i));
        }
    }

    private static void lose() {
        DUE.says("lose: False: none such.");
        for (int i : NO_PACKET) {
            refused("lose(" + i + ")", 0, x -> bit(x.lose(i)));
        }
    }

    private static void inject() {
        DUE.says("inject: NONE, the tape staying: no such endpoint.");
        for (int e : NO_ENDPOINT) {
            refused("inject(" + e + ")", -1, x -> x.inject(e));
        }
    }

    private static void poke() {
        DUE.says("poke: False: none such.");
        for (int i : NO_PACKET) {
            refused("poke(" + i + ", 0, 1)", 0, x -> bit(x.poke(i, 0, 1)));
        }
        // Packet 0 has 47 bytes, and packet 1 has 50.
        for (int k : new int[] {MIN, -1, 47, MAX}) {
            refused("poke(0, " + k + ", 1)", 0, x -> bit(x.poke(0, k, 1)));
        }
        refused("poke(1, 50, 1)", 0, x -> bit(x.poke(1, 50, 1)));
        for (int mask : new int[] {MIN, -1, 0, 256, MAX}) {
            refused("poke(0, 0, " + mask + ")", 0, x -> bit(x.poke(0, 0, mask)));
        }
    }

    private static void packet() {
        for (int i : NO_PACKET) {
            DUE.says("packet: NONE: none such.");
            refused("packet(" + i + ", 0)", -1, x -> x.packet(i, 0));
            DUE.says("size: NONE: none such.");
            refused("size(" + i + ")", -1, x -> x.size(i));
        }
        DUE.says("packet: NONE: none such.");
        for (int k : new int[] {MIN, -1, 47, MAX}) {
            refused("packet(0, " + k + ")", -1, x -> x.packet(0, k));
        }
        refused("packet(1, 50)", -1, x -> x.packet(1, 50));
    }

    private static void tick() {
        DUE.says("tick: NONE: not such.");
        for (int ticks : new int[] {MIN, -1, 0, 1001, MAX}) {
            refused("tick(" + ticks + ")", -1, x -> x.tick(ticks));
        }
    }

    private static void endpointsMemory() {
        for (int e : NO_ENDPOINT) {
            DUE.says("forget: NONE: none such.");
            refused("forget(" + e + ")", -1, x -> x.forget(e));
            DUE.says("known: NONE: none such.");
            refused("known(" + e + ")", -1, x -> x.known(e));
            DUE.says("knows: NONE: none such.");
            refused("knows(" + e + ", 0, 0)", -1, x -> x.knows(e, 0, 0));
        }
        // Endpoint 0 knows one, endpoint 1 two.
        for (int k : new int[] {MIN, -1, 1, 24, MAX}) {
            refused("knows(0, " + k + ", 0)", -1, x -> x.knows(0, k, 0));
        }
        refused("knows(1, 2, 0)", -1, x -> x.knows(1, 2, 0));
        for (int what : new int[] {MIN, -1, 5, MAX}) {
            refused("knows(0, 0, " + what + ")", -1, x -> x.knows(0, 0, what));
        }
    }

    private static void frames() {
        for (int s : NO_STATION) {
            DUE.says("got: NONE: none such.");
            refused("got(" + s + ")", -1, x -> x.got(s));
            DUE.says("frame: NONE: none such.");
            refused("frame(" + s + ", 0, 0)", -1, x -> x.frame(s, 0, 0));
            DUE.says("length: NONE: none such.");
            refused("length(" + s + ", 0)", -1, x -> x.length(s, 0));
        }
        // One frame of 15 bytes came to station 1, none to station 0.
        for (int k : new int[] {MIN, -1, 1, 6, MAX}) {
            DUE.says("frame: NONE: none such.");
            refused("frame(1, " + k + ", 0)", -1, x -> x.frame(1, k, 0));
            DUE.says("length: NONE: none such.");
            refused("length(1, " + k + ")", -1, x -> x.length(1, k));
        }
        refused("length(0, 0)", -1, x -> x.length(0, 0));
        DUE.says("frame: NONE: none such.");
        refused("frame(0, 0, 0)", -1, x -> x.frame(0, 0, 0));
        for (int i : new int[] {MIN, -1, 15, MAX}) {
            refused("frame(1, 0, " + i + ")", -1, x -> x.frame(1, 0, i));
        }
    }

    private static void count() {
        DUE.says("count: NONE: another number.");
        for (int what : new int[] {MIN, -1, 13, MAX}) {
            refused("count(" + what + ")", -1, x -> x.count(what));
        }
    }
}
