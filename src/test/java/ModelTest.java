import java.util.ArrayList;
import java.util.List;
import java.util.Map;
import java.util.Random;

/** Runs of calls, right ones and wrong ones, side by side with the model; no call may throw. */
public final class ModelTest {
    private static final Due DUE = new Due();
    private static final int RUNS = 1500;
    private static final int CALLS = 512;
    private static final int[] EDGES = {-1, 0, 1, 2, 7, 8, 9, 49, 50, 255, 256, 1000, 1001, 65536, 16777216,
        Integer.MIN_VALUE, Integer.MAX_VALUE};

    // Bytes that tell more than others: the flags, what follows, the sender, the heads, a MAC's first byte.
    private static final int[] LOOKED_AT = {6, 7, 9, 15, 19, 20, 22, 25, 26, 28, 30, 34, 38};

    private final Random random;
    private final OverlayFabric x = new OverlayFabric();
    private final Model m = new Model();
    private final String run;
    private final int macs;
    private final int nets;
    private int calls;

    private ModelTest(int seed) {
        random = new Random(seed);
        run = "run " + seed + ": ";
        // Some runs meet the same few MACs again and again, others fill what an endpoint can know.
        macs = seed % 3 == 0 ? 400 : 4;
        nets = 1 + seed % 2;
    }

    public static void main(String[] args) {
        for (int seed = 0; seed < RUNS; seed++) {
            new ModelTest(seed).go();
        }
        DUE.end();
    }

    private void go() {
        try {
            begin(macs > 4 ? 2 : 2 + random.nextInt(7));
            for (int s = macs > 4 ? 31 : random.nextInt(10); s >= 0; s--) {
                station(macs > 4 && s > 3 ? 0 : random.nextInt(m.endpoints), net(), random.nextInt(macs));
            }
            while (calls < CALLS - 125) {
                int kind = random.nextInt(100);
                step(macs > 4 && kind > 58 && random.nextInt(4) != 0 ? 20 : kind);
            }
        } catch (RuntimeException thrown) {
            DUE.no(run + thrown, true);
        }
    }

    private void step(int kind) {
        if (kind < 3) {
            station(below(m.endpoints), random.nextInt(9) == 0 ? edge() : net(), random.nextInt(macs));
        } else if (kind < 8) {
            move(below(m.hosts.size()), below(m.endpoints));
        } else if (kind < 12) {
            way(below(m.endpoints), below(m.endpoints), below(3));
        } else if (kind < 18) {
            feed(random.nextInt(9) == 0 ? edge() : random.nextInt(256));
        } else if (kind < 45) {
            send(below(m.hosts.size()), to(), random.nextInt(9) == 0 ? edge() : random.nextInt(65536));
        } else if (kind < 58) {
            comes(below(m.flight.size()), random.nextBoolean());
        } else if (kind < 60) {
            lose(below(m.flight.size()));
        } else if (kind < 63) {
            poke(below(m.flight.size()), below(60), random.nextInt(9) == 0 ? edge() : 1 << random.nextInt(8));
        } else if (kind < 64) {
            inject(below(m.endpoints));
        } else if (kind < 66) {
            tick(random.nextInt(9) == 0 ? edge() : 1 + random.nextInt(90));
        } else if (kind == 66 && random.nextInt(4) == 0) {
            begin(random.nextBoolean() ? edge() : 2 + random.nextInt(7));
        } else if (kind == 67) {
            forget(below(m.endpoints));
        } else if (kind > 67) {
            look(kind);
        }
    }

    private void look(int kind) {
        if (kind < 74) {
            knows(below(m.endpoints), below(26), below(5));
        } else if (kind < 80) {
            frame(below(m.hosts.size()), below(6), below(56));
        } else if (kind < 90) {
            packet(below(m.flight.size()), below(90));
        } else {
            int what = below(13);
            eq("count(" + what + ")", x.count(what), what < 0 || what > 12 ? -1 : m.counts[what]);
        }
    }

    private int net() {
        return 7 + random.nextInt(nets);
    }

    private int edge() {
        return EDGES[random.nextInt(EDGES.length)];
    }

    /** Mostly a number that there is. */
    private int below(int end) {
        return end == 0 || random.nextInt(12) == 0 ? edge() : random.nextInt(end);
    }

    private long to() {
        int kind = random.nextInt(12);
        if (kind > 1 && !m.hosts.isEmpty()) {
            return m.hosts.get(random.nextInt(m.hosts.size())).mac;
        }
        return kind == 0 ? Packets.ALL : random.nextLong() >>> random.nextInt(20);
    }

    private void eq(String call, long got, long want) {
        calls++;
        DUE.eq(run + call, got, want);
    }

    private static boolean in(int i, int end) {
        return i >= 0 && i < end;
    }

    private void begin(int n) {
        boolean right = n >= 2 && n <= 8;
        eq("begin(" + n + ")", x.begin(n) ? 1 : 0, right ? 1 : 0);
        if (right) {
            m.begin(n);
        }
    }

    private void station(int endpoint, int net, int mac) {
        boolean right = in(endpoint, m.endpoints) && in(net, 16777216) && m.hosts.size() < 32;
        eq("station(" + endpoint + ", " + net + ", " + mac + ")", x.station(endpoint, net, mac),
            right ? m.hosts.size() : -1);
        if (right) {
            Model.Host host = new Model.Host();
            host.endpoint = endpoint;
            host.net = net;
            host.mac = Packets.mac(mac);
            m.hosts.add(host);
        }
    }

    private void move(int station, int endpoint) {
        boolean right = in(station, m.hosts.size()) && in(endpoint, m.endpoints);
        eq("move(" + station + ", " + endpoint + ")", x.move(station, endpoint) ? 1 : 0, right ? 1 : 0);
        if (right) {
            m.hosts.get(station).endpoint = endpoint;
        }
    }

    private void way(int from, int to, int way) {
        boolean right = in(from, m.endpoints) && in(to, m.endpoints) && from != to && in(way, 3);
        eq("way(" + from + ", " + to + ", " + way + ")", x.way(from, to, way) ? 1 : 0, right ? 1 : 0);
        if (right) {
            m.ways[from][to] = way;
        }
    }

    private void feed(int b) {
        boolean right = in(b, 256) && m.tape.size() < 120;
        eq("feed(" + b + ")", x.feed(b) ? 1 : 0, right ? 1 : 0);
        if (right) {
            m.tape.add(b);
        }
    }

    private void send(int station, long to, int type) {
        boolean right = in(station, m.hosts.size()) && to >= 0 && to <= Packets.ALL && in(type, 65536)
            && m.tape.size() <= 40;
        int want = right ? m.send(station, to, type) : -1;
        eq("send(" + station + ", " + to + ", " + type + ")", x.send(station, to, type), want);
        eq("flying()", x.flying(), m.flight.size());
    }

    private void comes(int i, boolean stays) {
        int want = in(i, m.flight.size()) ? m.arrive(m.flight.get(i), m.targets.get(i)) : -1;
        if (want >= 0 && !stays) {
            m.flight.remove(i);
            m.targets.remove(i);
        }
        eq((stays ? "twice(" : "deliver(") + i + ")", stays ? x.twice(i) : x.deliver(i), want);
    }

    private void lose(int i) {
        boolean right = in(i, m.flight.size());
        eq("lose(" + i + ")", x.lose(i) ? 1 : 0, right ? 1 : 0);
        if (right) {
            m.flight.remove(i);
            m.targets.remove(i);
        }
    }

    private void poke(int i, int k, int mask) {
        boolean right = in(i, m.flight.size()) && in(k, m.flight.get(i).length) && mask >= 1 && mask <= 255;
        eq("poke(" + i + ", " + k + ", " + mask + ")", x.poke(i, k, mask) ? 1 : 0, right ? 1 : 0);
        if (right) {
            m.flight.get(i)[k] ^= mask;
        }
    }

    /** Often a packet that is in flight is fed first, changed a bit and with its sum set right. */
    private void inject(int endpoint) {
        if (m.tape.isEmpty() && !m.flight.isEmpty()) {
            int[] packet = m.flight.get(random.nextInt(m.flight.size())).clone();
            for (int n = random.nextInt(3); n > 0; n--) {
                int any = random.nextInt(packet.length);
                int k = random.nextBoolean() ? any : LOOKED_AT[random.nextInt(LOOKED_AT.length)];
                packet[k] ^= random.nextBoolean() ? 1 : 1 << random.nextInt(8);
            }
            for (int b : Packets.sealIp(packet)) {
                feed(b);
            }
        }
        int want = in(endpoint, m.endpoints) ? m.arrive(m.takeTape(), endpoint) : -1;
        eq("inject(" + endpoint + ")", x.inject(endpoint), want);
    }

    private void tick(int ticks) {
        boolean right = ticks >= 1 && ticks <= 1000;
        eq("tick(" + ticks + ")", x.tick(ticks), right ? m.tick(ticks) : -1);
    }

    private void forget(int endpoint) {
        int want = in(endpoint, m.endpoints) ? m.memories.get(endpoint).size() : -1;
        eq("known(" + endpoint + ")", x.known(endpoint), want);
        eq("forget(" + endpoint + ")", x.forget(endpoint), want);
        if (want > 0) {
            m.memories.get(endpoint).clear();
        }
    }

    private void knows(int endpoint, int k, int what) {
        long want = -1;
        if (in(endpoint, m.endpoints) && in(k, m.memories.get(endpoint).size()) && in(what, 5)) {
            List<Map.Entry<List<Long>, Model.Place>> all = new ArrayList<>(m.memories.get(endpoint).entrySet());
            Model.Place place = all.get(k).getValue();
            List<Long> key = all.get(k).getKey();
            long[] told = {key.get(0), key.get(1), place.endpoint, place.host, place.age};
            want = told[what];
        }
        eq("knows(" + endpoint + ", " + k + ", " + what + ")", x.knows(endpoint, k, what), want);
    }

    private void frame(int station, int k, int i) {
        int[] frame = null;
        if (in(station, m.hosts.size()) && in(k, m.hosts.get(station).frames.size())) {
            frame = new ArrayList<>(m.hosts.get(station).frames).get(k);
        }
        eq("got(" + station + ")", x.got(station), in(station, m.hosts.size()) ? m.hosts.get(station).came : -1);
        eq("length(" + station + ", " + k + ")", x.length(station, k), frame == null ? -1 : frame.length);
        eq("frame(" + station + ", " + k + ", " + i + ")", x.frame(station, k, i),
            frame == null || !in(i, frame.length) ? -1 : frame[i]);
    }

    private void packet(int i, int k) {
        int[] packet = in(i, m.flight.size()) ? m.flight.get(i) : null;
        eq("size(" + i + ")", x.size(i), packet == null ? -1 : packet.length);
        eq("packet(" + i + ", " + k + ")", x.packet(i, k), packet == null || !in(k, packet.length) ? -1 : packet[k]);
    }
}
