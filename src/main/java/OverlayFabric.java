import java.util.ArrayList;

/** Frames of stations, carried between endpoints within packets of another net. */
public final class OverlayFabric {
    public static final int NONE = -1;

    private static final int FEWEST_ENDPOINTS = 2;
    private static final int MOST_ENDPOINTS = 8;
    private static final int ENDPOINTS_WHEN_NEW = 4;
    private static final int MOST_STATIONS = 32;
    private static final int HIGHEST_NET = 16777215;
    private static final long HIGHEST_MAC = 0xFFFFFFFFFFFFL;
    private static final int HIGHEST_TYPE = 65535;
    private static final int HIGHEST_BYTE = 255;
    private static final int TAPE_ROOM = 120;
    private static final int MOST_BYTES_BEHIND_TYPE = 40;
    private static final int MOST_IN_FLIGHT = 50;
    private static final int MOST_TICKS = 1000;

    private static final int COUNTERS = 13;
    private static final int COUNT_SENT = 0;
    private static final int COUNT_LOST = 10;
    private static final int COUNT_LEARNT = 11;
    private static final int COUNT_WENT_AS_OLDEST = 12;

    private static final int LET_IN = 0;
    private static final int DROP_NOT_WHOLE = 1;
    private static final int DROP_WRONG_SUM = 2;
    private static final int DROP_OTHER_ADDRESS = 3;
    private static final int DROP_DIVIDED = 4;
    private static final int DROP_NO_FRAME = 5;
    private static final int DROP_NET_NOT_HERE = 6;
    private static final int DROP_SENDER_UNFIT = 7;
    private static final int DROP_GROUP_AS_SOURCE = 8;
    private static final int DROP_ELSEWHERE = 9;

    private final Endpoint[] endpoints = new Endpoint[MOST_ENDPOINTS];
    private final ArrayList<Station> stations = new ArrayList<>();
    private final ArrayList<Packet> flight = new ArrayList<>();
    private final Row tape = new Row(TAPE_ROOM);
    private final int[] counters = new int[COUNTERS];
    private int endpointsInUse = ENDPOINTS_WHEN_NEW;

    public OverlayFabric() {
        for (int e = 0; e < MOST_ENDPOINTS; e++) {
            endpoints[e] = new Endpoint(e);
        }
    }

    public boolean begin(int endpoints) {
        if (endpoints < FEWEST_ENDPOINTS || endpoints > MOST_ENDPOINTS) {
            return false;
        }
        endpointsInUse = endpoints;
        for (int e = 0; e < MOST_ENDPOINTS; e++) {
            Endpoint one = this.endpoints[e];
            if (one != null) {
                one.reset();
            }
        }
        stations.clear();
        flight.clear();
        for (int c = 0; c < COUNTERS; c++) {
            counters[c] = 0;
        }
        return true;
    }

    public int station(int endpoint, int net, int mac) {
        if (endpointAt(endpoint) == null || net < 0 || net > HIGHEST_NET || stations.size() >= MOST_STATIONS) {
            return NONE;
        }
        stations.add(new Station(endpoint, net, mac));
        return stations.size() - 1;
    }

    public boolean move(int station, int endpoint) {
        Station moved = stationAt(station);
        if (moved == null || endpointAt(endpoint) == null) {
            return false;
        }
        moved.endpoint = endpoint;
        return true;
    }

    public boolean way(int from, int to, int way) {
        Endpoint sender = endpointAt(from);
        if (sender == null || endpointAt(to) == null || from == to) {
            return false;
        }
        if (way < Wire.UDP || way > Wire.GRE_WITH_SUM) {
            return false;
        }
        sender.chooseWay(to, way);
        return true;
    }

    public boolean feed(int b) {
        if (b < 0 || b > HIGHEST_BYTE || tape.used >= TAPE_ROOM) {
            return false;
        }
        tape.append(b);
        return true;
    }

    public int send(int station, long to, int type) {
        Station sender = stationAt(station);
        if (sender == null || to < 0 || to > HIGHEST_MAC || type < 0 || type > HIGHEST_TYPE) {
            return NONE;
        }
        Endpoint here = endpointAt(sender.endpoint);
        if (here == null || tape.used > MOST_BYTES_BEHIND_TYPE) {
            return NONE;
        }
        Row sent = Wire.frameOf(to, sender.mac, type, tape);
        tape.clear();
        learn(here, new Known(sender.net, sender.mac, NONE, station));
        Known goal = here.whereIs(sender.net, to);
        if (goal == null) {
            comeToAll(sent, here.number, sender.net, station);
            return launchToAll(sent, here, sender.net);
        }
        if (goal.station == NONE) {
            launch(sent, sender.net, here, goal.endpoint);
            return 1;
        }
        if (goal.station != station) {
            comeToOne(sent, here.number, goal.station);
        }
        return 0;
    }

    public int deliver(int i) {
        Packet one = packetAt(i);
        if (one == null) {
            return NONE;
        }
        flight.remove(i);
        return arrive(one.bytes, endpointAt(one.target));
    }

    public int twice(int i) {
        Packet one = packetAt(i);
        if (one == null) {
            return NONE;
        }
        return arrive(one.bytes, endpointAt(one.target));
    }

    public boolean lose(int i) {
        if (packetAt(i) == null) {
            return false;
        }
        flight.remove(i);
        return true;
    }

    public int inject(int endpoint) {
        Endpoint here = endpointAt(endpoint);
        if (here == null) {
            return NONE;
        }
        int why = arrive(tape, here);
        tape.clear();
        return why;
    }

    public boolean poke(int i, int k, int mask) {
        Packet one = packetAt(i);
        if (one == null || !one.bytes.holds(k) || mask < 1 || mask > HIGHEST_BYTE) {
            return false;
        }
        one.bytes.turn(k, mask);
        return true;
    }

    public int flying() {
        return flight.size();
    }

    public int packet(int i, int k) {
        Packet one = packetAt(i);
        return one == null ? NONE : one.bytes.at(k);
    }

    public int size(int i) {
        Packet one = packetAt(i);
        return one == null ? NONE : one.bytes.used;
    }

    public int tick(int ticks) {
        if (ticks < 1 || ticks > MOST_TICKS) {
            return NONE;
        }
        int gone = 0;
        for (int e = 0; e < endpointsInUse; e++) {
            Endpoint here = endpointAt(e);
            gone += here == null ? 0 : here.growOlder(ticks);
        }
        return gone;
    }

    public int forget(int endpoint) {
        Endpoint here = endpointAt(endpoint);
        return here == null ? NONE : here.forgetAll();
    }

    public int known(int endpoint) {
        Endpoint here = endpointAt(endpoint);
        return here == null ? NONE : here.memory.size();
    }

    public long knows(int endpoint, int k, int what) {
        Endpoint here = endpointAt(endpoint);
        Known one = here == null ? null : here.knownAt(k);
        return one == null ? NONE : one.tell(what);
    }

    public int got(int station) {
        Station there = stationAt(station);
        return there == null ? NONE : there.came;
    }

    public int frame(int station, int k, int i) {
        Row one = frameAt(station, k);
        return one == null ? NONE : one.at(i);
    }

    public int length(int station, int k) {
        Row one = frameAt(station, k);
        return one == null ? NONE : one.used;
    }

    public int count(int what) {
        return what < 0 || what >= COUNTERS ? NONE : counters[what];
    }

    private Endpoint endpointAt(int number) {
        return number < 0 || number >= endpointsInUse ? null : endpoints[number];
    }

    private Station stationAt(int number) {
        return number < 0 || number >= stations.size() ? null : stations.get(number);
    }

    private Packet packetAt(int i) {
        return i < 0 || i >= flight.size() ? null : flight.get(i);
    }

    private Row frameAt(int station, int k) {
        Station there = stationAt(station);
        return there == null ? null : there.latestFrame(k);
    }

    private void tally(int what) {
        if (what >= 0 && what < COUNTERS) {
            counters[what]++;
        }
    }

    private boolean hasNet(int endpoint, int net) {
        for (int s = 0; s < stations.size(); s++) {
            Station one = stationAt(s);
            if (one != null && one.isThere(endpoint, net)) {
                return true;
            }
        }
        return false;
    }

    private void learn(Endpoint here, Known news) {
        int k = here.find(news.net, news.mac);
        Known before = here.knownAt(k);
        if (before != null && before.isAtPlaceOf(news)) {
            before.age = 0;
            return;
        }
        // What is learnt anew frees its own room, so that no other has to go for it.
        if (before != null) {
            here.drop(k);
        } else if (here.isFull()) {
            here.drop(here.oldest());
            tally(COUNT_WENT_AS_OLDEST);
        }
        here.memory.add(news);
        tally(COUNT_LEARNT);
    }

    private void comeToAll(Row frame, int endpoint, int net, int butStation) {
        for (int s = 0; s < stations.size(); s++) {
            Station one = stationAt(s);
            if (one != null && s != butStation && one.isThere(endpoint, net)) {
                one.take(frame);
            }
        }
    }

    private void comeToOne(Row frame, int endpoint, int station) {
        Station there = stationAt(station);
        // What is known of a station stays when it moves, so it may be away by now.
        if (there != null && there.endpoint == endpoint) {
            there.take(frame);
        }
    }

    private int launchToAll(Row frame, Endpoint here, int net) {
        int launched = 0;
        for (int e = 0; e < endpointsInUse; e++) {
            if (e != here.number && hasNet(e, net)) {
                launch(frame, net, here, e);
                launched++;
            }
        }
        return launched;
    }

    private void launch(Row frame, int net, Endpoint here, int to) {
        Row bytes = Wire.wrap(frame, net, here.wayTo(to), here.launched, here.number, to);
        here.launched++;
        flight.add(new Packet(bytes, to));
        tally(COUNT_SENT);
        if (flight.size() > MOST_IN_FLIGHT) {
            flight.remove(0);
            tally(COUNT_LOST);
        }
    }

    private int arrive(Row packet, Endpoint here) {
        if (here == null) {
            return NONE;
        }
        int why = Wire.faultOf(packet, here.number);
        if (why == LET_IN) {
            why = misfitOf(packet, here.number);
        }
        if (why == LET_IN) {
            why = letIn(packet, here);
        }
        if (why != LET_IN) {
            tally(why);
        }
        return why;
    }

    /** The reasons 6 to 8, which hold or not by where stations are now. */
    private int misfitOf(Row packet, int endpoint) {
        int net = Wire.netOf(packet);
        if (!hasNet(endpoint, net)) {
            return DROP_NET_NOT_HERE;
        }
        int from = Wire.senderOf(packet);
        if (endpointAt(from) == null || from == endpoint || !hasNet(from, net)) {
            return DROP_SENDER_UNFIT;
        }
        return Wire.isGroup(Wire.macFrom(packet)) ? DROP_GROUP_AS_SOURCE : LET_IN;
    }

    private int letIn(Row packet, Endpoint here) {
        int net = Wire.netOf(packet);
        learn(here, new Known(net, Wire.macFrom(packet), Wire.senderOf(packet), NONE));
        Known goal = here.whereIs(net, Wire.macTo(packet));
        if (goal != null && goal.station == NONE) {
            return DROP_ELSEWHERE;
        }
        Row frame = Wire.unwrap(packet);
        if (goal == null) {
            comeToAll(frame, here.number, net, NONE);
        } else {
            comeToOne(frame, here.number, goal.station);
        }
        return LET_IN;
    }

    /** Bytes, each 0 .. 255, in a room that is set when the row is made. */
    private static final class Row {
        private final int[] cells;
        private int used;

        Row(int room) {
            cells = new int[room > 0 ? room : 0];
        }

        boolean holds(int i) {
            return i >= 0 && i < used;
        }

        int at(int i) {
            return i >= 0 && i < used ? cells[i] : NONE;
        }

        void clear() {
            used = 0;
        }

        void append(int b) {
            if (used < cells.length) {
                cells[used] = b & 255;
                used++;
            }
        }

        void appendNumber(long value, int bytes) {
            for (int left = bytes - 1; left >= 0; left--) {
                append((int) (value >>> (8 * left)));
            }
        }

        void appendRest(Row other, int from) {
            for (int i = from; i < other.used; i++) {
                append(other.at(i));
            }
        }

        void turn(int i, int mask) {
            if (i >= 0 && i < used) {
                cells[i] ^= mask & 255;
            }
        }

        void putPair(int i, int value) {
            if (i >= 0 && i < used - 1) {
                cells[i] = value >>> 8 & 255;
                cells[i + 1] = value & 255;
            }
        }

        long number(int from, int bytes) {
            long value = 0;
            for (int i = from; i < from + bytes; i++) {
                value = value << 8 | at(i) & 255;
            }
            return value;
        }

        int pair(int i) {
            return (at(i) & 255) << 8 | at(i + 1) & 255;
        }

        int sum(int from, int to) {
            int total = 0;
            for (int i = from; i < to; i += 2) {
                total += at(i) << 8 | (i + 1 < to ? at(i + 1) : 0);
            }
            // Two rounds are enough for as many bytes as the longest row has.
            for (int round = 0; round < 2; round++) {
                total = (total & 65535) + (total >>> 16);
            }
            return ~total & 65535;
        }
    }

    /** How frames and packets are laid out, byte by byte. */
    private static final class Wire {
        static final int UDP = 0;
        static final int GRE_WITH_SUM = 2;

        private static final int FRAME_HEAD = 14;
        private static final int FRAME_MACS = 12;
        private static final int FROM_MAC_AT = 6;

        private static final int IP_BYTES = 20;
        private static final int IP_START = 69;
        private static final int IP_UNDIVIDED = 64 << 8;
        private static final int IP_SIZE_AT = 2;
        private static final int IP_FLAGS_AT = 6;
        private static final int IP_FOLLOWS_AT = 9;
        private static final int IP_SUM_AT = 10;
        private static final int IP_FROM_AT = 12;
        private static final int IP_TO_AT = 16;
        private static final int IP_HOPS = 64;
        private static final int FOLLOWS_UDP = 17;
        private static final int FOLLOWS_GRE = 47;
        private static final int FIRST_ADDRESS = 167772161;

        private static final int UDP_PORT_BASE = 49152;
        private static final int UDP_PORT_MASK = 16383;
        private static final int UDP_PORT = 4789;
        private static final int UDP_PORT_AT = IP_BYTES + 2;
        private static final int UDP_SIZE_AT = IP_BYTES + 4;
        private static final int UDP_SUM_AT = IP_BYTES + 6;
        private static final int UDP_NET_MARK_AT = IP_BYTES + 8;
        private static final int UDP_NET_MARK = 8;
        private static final int UDP_HEAD = 16;

        private static final int GRE_PLAIN = 8192;
        private static final int GRE_SUMMED = 40960;
        private static final int GRE_CARRIES = 25944;
        private static final int GRE_CARRIES_AT = IP_BYTES + 2;
        private static final int GRE_SUM_AT = IP_BYTES + 4;
        private static final int GRE_HEAD = 8;
        private static final int GRE_SUMMED_HEAD = 12;

        static Row frameOf(long to, long from, int type, Row rest) {
            Row frame = new Row(FRAME_HEAD + rest.used);
            frame.appendNumber(to, 6);
            frame.appendNumber(from, 6);
            frame.appendNumber(type, 2);
            frame.appendRest(rest, 0);
            return frame;
        }

        static Row wrap(Row frame, int net, int way, int number, int from, int to) {
            int head = way == UDP ? UDP_HEAD : way == GRE_WITH_SUM ? GRE_SUMMED_HEAD : GRE_HEAD;
            int size = IP_BYTES + head + frame.used;
            Row packet = new Row(size);
            appendIp(packet, size, number, way == UDP ? FOLLOWS_UDP : FOLLOWS_GRE, from, to);
            if (way == UDP) {
                appendUdp(packet, size - IP_BYTES, net, mixOf(frame));
            } else {
                appendGre(packet, way == GRE_WITH_SUM, net, mixOf(frame));
            }
            packet.appendRest(frame, 0);
            if (way == GRE_WITH_SUM) {
                packet.putPair(GRE_SUM_AT, packet.sum(IP_BYTES, packet.used));
            }
            return packet;
        }

        private static void appendIp(Row packet, int size, int number, int follows, int from, int to) {
            packet.append(IP_START);
            packet.append(0);
            packet.appendNumber(size, 2);
            packet.appendNumber(number, 2);
            packet.appendNumber(IP_UNDIVIDED, 2);
            packet.append(IP_HOPS);
            packet.append(follows);
            packet.appendNumber(0, 2);
            packet.appendNumber(FIRST_ADDRESS + from, 4);
            packet.appendNumber(FIRST_ADDRESS + to, 4);
            packet.putPair(IP_SUM_AT, packet.sum(0, IP_BYTES));
        }

        private static void appendUdp(Row packet, int size, int net, int mix) {
            packet.appendNumber(UDP_PORT_BASE + (mix & UDP_PORT_MASK), 2);
            packet.appendNumber(UDP_PORT, 2);
            packet.appendNumber(size, 2);
            packet.appendNumber(0, 2);
            packet.append(UDP_NET_MARK);
            packet.appendNumber(0, 3);
            packet.appendNumber(net, 3);
            packet.append(0);
        }

        private static void appendGre(Row packet, boolean summed, int net, int mix) {
            packet.appendNumber(summed ? GRE_SUMMED : GRE_PLAIN, 2);
            packet.appendNumber(GRE_CARRIES, 2);
            if (summed) {
                packet.appendNumber(0, 4);
            }
            packet.appendNumber(net, 3);
            packet.append(mix);
        }

        private static int mixOf(Row frame) {
            int mix = 0;
            for (int i = 0; i < FRAME_MACS; i++) {
                mix = 31 * mix + frame.at(i);
            }
            return mix;
        }

        /** The reasons 1 to 5, which the packet's own bytes tell. */
        static int faultOf(Row packet, int endpoint) {
            if (packet.used < IP_BYTES || packet.at(0) != IP_START || packet.pair(IP_SIZE_AT) != packet.used) {
                return DROP_NOT_WHOLE;
            }
            if (packet.sum(0, IP_BYTES) != 0) {
                return DROP_WRONG_SUM;
            }
            if (packet.number(IP_TO_AT, 4) != FIRST_ADDRESS + endpoint) {
                return DROP_OTHER_ADDRESS;
            }
            int flags = packet.pair(IP_FLAGS_AT);
            if (flags != IP_UNDIVIDED && flags != 0) {
                return DROP_DIVIDED;
            }
            return carriesFrame(packet) ? LET_IN : DROP_NO_FRAME;
        }

        private static boolean carriesFrame(Row packet) {
            if (packet.used < frameStart(packet) + FRAME_HEAD) {
                return false;
            }
            int follows = packet.at(IP_FOLLOWS_AT);
            if (follows == FOLLOWS_UDP) {
                return isGoodUdp(packet);
            }
            return follows == FOLLOWS_GRE && isGoodGre(packet);
        }

        private static boolean isGoodUdp(Row packet) {
            return packet.pair(UDP_SIZE_AT) == packet.used - IP_BYTES
                && packet.pair(UDP_PORT_AT) == UDP_PORT
                && packet.pair(UDP_SUM_AT) == 0
                && (packet.at(UDP_NET_MARK_AT) & UDP_NET_MARK) != 0;
        }

        private static boolean isGoodGre(Row packet) {
            if (packet.pair(GRE_CARRIES_AT) != GRE_CARRIES) {
                return false;
            }
            int first = packet.pair(IP_BYTES);
            return first == GRE_PLAIN || first == GRE_SUMMED && packet.sum(IP_BYTES, packet.used) == 0;
        }

        private static int frameStart(Row packet) {
            if (packet.at(IP_FOLLOWS_AT) == FOLLOWS_UDP) {
                return IP_BYTES + UDP_HEAD;
            }
            return IP_BYTES + (packet.pair(IP_BYTES) == GRE_SUMMED ? GRE_SUMMED_HEAD : GRE_HEAD);
        }

        // In all kinds of packets the net's three bytes and one more stand right before the frame.
        static int netOf(Row packet) {
            return (int) packet.number(frameStart(packet) - 4, 3);
        }

        /** Whose address the packet comes from, which need not be an endpoint that there is. */
        static int senderOf(Row packet) {
            return (int) packet.number(IP_FROM_AT, 4) - FIRST_ADDRESS;
        }

        static long macTo(Row packet) {
            return packet.number(frameStart(packet), 6);
        }

        static long macFrom(Row packet) {
            return packet.number(frameStart(packet) + FROM_MAC_AT, 6);
        }

        static boolean isGroup(long mac) {
            return (mac >>> 40 & 1) != 0;
        }

        static Row unwrap(Row packet) {
            int start = frameStart(packet);
            Row frame = new Row(packet.used - start);
            frame.appendRest(packet, start);
            return frame;
        }
    }

    /** What is in flight: the bytes may be poked, the endpoint that they were sent to stays. */
    private static final class Packet {
        private final Row bytes;
        private final int target;

        Packet(Row bytes, int target) {
            this.bytes = bytes;
            this.target = target;
        }
    }

    /** Where a MAC of a net is: either the endpoint or the station is NONE. */
    private static final class Known {
        private final int net;
        private final long mac;
        private final int endpoint;
        private final int station;
        private int age;

        Known(int net, long mac, int endpoint, int station) {
            this.net = net;
            this.mac = mac;
            this.endpoint = endpoint;
            this.station = station;
        }

        boolean isAtPlaceOf(Known other) {
            return endpoint == other.endpoint && station == other.station;
        }

        long tell(int what) {
            switch (what) {
                case 0:
                    return net;
                case 1:
                    return mac;
                case 2:
                    return endpoint;
                case 3:
                    return station;
                case 4:
                    return age;
                default:
                    return NONE;
            }
        }
    }

    /** An endpoint: what it knows, by the order of learning, and how it sends to the others. */
    private static final class Endpoint {
        private static final int MOST_KNOWN = 24;
        private static final int OLDEST_AGE = 300;

        private final int number;
        private final ArrayList<Known> memory = new ArrayList<>();
        private final int[] ways = new int[MOST_ENDPOINTS];
        private int launched;

        Endpoint(int number) {
            this.number = number;
        }

        void reset() {
            memory.clear();
            launched = 0;
            for (int e = 0; e < MOST_ENDPOINTS; e++) {
                ways[e] = Wire.UDP;
            }
        }

        void chooseWay(int to, int way) {
            if (to >= 0 && to < MOST_ENDPOINTS) {
                ways[to] = way;
            }
        }

        int wayTo(int to) {
            return to >= 0 && to < MOST_ENDPOINTS ? ways[to] : Wire.UDP;
        }

        boolean isFull() {
            return memory.size() >= MOST_KNOWN;
        }

        Known knownAt(int k) {
            return k < 0 || k >= memory.size() ? null : memory.get(k);
        }

        int find(int net, long mac) {
            for (int k = 0; k < memory.size(); k++) {
                Known one = knownAt(k);
                if (one != null && one.net == net && one.mac == mac) {
                    return k;
                }
            }
            return NONE;
        }

        /** Null if the MAC is meant for all of the net, or not known. */
        Known whereIs(int net, long mac) {
            return Wire.isGroup(mac) ? null : knownAt(find(net, mac));
        }

        /** Of the same age the one learnt first; NONE if nothing is known. */
        int oldest() {
            int found = NONE;
            int age = NONE;
            for (int k = 0; k < memory.size(); k++) {
                Known one = knownAt(k);
                if (one != null && one.age > age) {
                    found = k;
                    age = one.age;
                }
            }
            return found;
        }

        void drop(int k) {
            if (k >= 0 && k < memory.size()) {
                memory.remove(k);
            }
        }

        int growOlder(int ticks) {
            int before = memory.size();
            for (int k = before - 1; k >= 0; k--) {
                Known one = knownAt(k);
                if (one != null && one.age + ticks > OLDEST_AGE) {
                    drop(k);
                } else if (one != null) {
                    one.age += ticks;
                }
            }
            return before - memory.size();
        }

        int forgetAll() {
            int before = memory.size();
            memory.clear();
            return before;
        }
    }

    /** A station, with the latest frames that came to it. */
    private static final class Station {
        private static final int MOST_FRAMES = 6;
        private static final long MAC_BASE = 2L << 40;

        private final int net;
        private final long mac;
        private final Row[] frames = new Row[MOST_FRAMES];
        private int endpoint;
        private int came;

        Station(int endpoint, int net, int mac) {
            this.endpoint = endpoint;
            this.net = net;
            this.mac = MAC_BASE | mac & 0xFFFFFFFFL;
        }

        boolean isThere(int endpoint, int net) {
            return this.endpoint == endpoint && this.net == net;
        }

        // Stations may hold the same row, as nothing changes a frame once it has come.
        void take(Row frame) {
            for (int k = MOST_FRAMES - 1; k > 0; k--) {
                frames[k] = frames[k - 1];
            }
            frames[0] = frame;
            came++;
        }

        Row latestFrame(int k) {
            return k < 0 || k >= MOST_FRAMES ? null : frames[k];
        }
    }
}
