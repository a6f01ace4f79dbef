import java.util.ArrayDeque;
import java.util.ArrayList;
import java.util.Arrays;
import java.util.Deque;
import java.util.LinkedHashMap;
import java.util.List;
import java.util.Map;

/** The document told once more, by the library's maps and lists, for arguments that are right. */
final class Model {
    /** The latest frames of a station, the latest one first. */
    static final class Host {
        int endpoint;
        int net;
        long mac;
        int came;
        final Deque<int[]> frames = new ArrayDeque<>();

        void take(int[] frame) {
            came++;
            frames.addFirst(frame);
            if (frames.size() > 6) {
                frames.removeLast();
            }
        }
    }

    /** Where one is, and how old that is; the map that holds it keeps the order of learning. */
    static final class Place {
        final int endpoint;
        final int host;
        int age;

        Place(int endpoint, int host) {
            this.endpoint = endpoint;
            this.host = host;
        }
    }

    int endpoints = 4;
    final List<Host> hosts = new ArrayList<>();
    final List<Integer> tape = new ArrayList<>();
    final List<int[]> flight = new ArrayList<>();
    final List<Integer> targets = new ArrayList<>();
    final List<Map<List<Long>, Place>> memories = new ArrayList<>();
    int[][] ways = new int[8][8];
    int[] numbers = new int[8];
    int[] counts = new int[13];

    Model() {
        begin(4);
    }

    void begin(int n) {
        endpoints = n;
        hosts.clear();
        flight.clear();
        targets.clear();
        memories.clear();
        for (int e = 0; e < n; e++) {
            memories.add(new LinkedHashMap<>());
        }
        ways = new int[8][8];
        numbers = new int[8];
        counts = new int[13];
    }

    int[] takeTape() {
        int[] bytes = tape.stream().mapToInt(Integer::intValue).toArray();
        tape.clear();
        return bytes;
    }

    private boolean has(int endpoint, int net) {
        return hosts.stream().anyMatch(h -> h.endpoint == endpoint && h.net == net);
    }

    private void learn(int endpoint, int net, long mac, Place place) {
        Map<List<Long>, Place> memory = memories.get(endpoint);
        List<Long> key = List.of((long) net, mac);
        Place old = memory.get(key);
        if (old != null && old.endpoint == place.endpoint && old.host == place.host) {
            old.age = 0;
            return;
        }
        memory.remove(key);
        if (memory.size() == 24) {
            int most = memory.values().stream().mapToInt(p -> p.age).max().orElse(0);
            memory.remove(memory.entrySet().stream().filter(e -> e.getValue().age == most).findFirst().get().getKey());
            counts[12]++;
        }
        memory.put(key, place);
        counts[11]++;
    }

    private Place find(int endpoint, int net, int[] frame) {
        return frame[0] % 2 == 1 ? null : memories.get(endpoint).get(List.of((long) net, number(frame, 0, 6)));
    }

    static long number(int[] bytes, int from, int count) {
        long value = 0;
        for (int i = from; i < from + count; i++) {
            value = 256 * value + bytes[i];
        }
        return value;
    }

    int send(int host, long to, int type) {
        Host h = hosts.get(host);
        int[] frame = Packets.frame(to, h.mac, type, takeTape());
        learn(h.endpoint, h.net, h.mac, new Place(-1, host));
        Place place = find(h.endpoint, h.net, frame);
        int before = counts[0];
        for (int o = 0; o < hosts.size(); o++) {
            Host other = hosts.get(o);
            boolean meant = place == null ? other.net == h.net : place.host == o;
            if (meant && o != host && other.endpoint == h.endpoint) {
                other.take(frame);
            }
        }
        for (int e = 0; e < endpoints; e++) {
            if (place == null ? e != h.endpoint && has(e, h.net) : place.endpoint == e) {
                launch(h.endpoint, e, h.net, frame);
            }
        }
        return counts[0] - before;
    }

    private void launch(int from, int to, int net, int[] frame) {
        int n = numbers[from]++;
        int way = ways[from][to];
        flight.add(way == 0 ? Packets.udp(n, from, to, net, frame)
            : way == 1 ? Packets.gre(n, from, to, net, frame) : Packets.greWithSum(n, from, to, net, frame));
        targets.add(to);
        counts[0]++;
        if (flight.size() == 51) {
            flight.remove(0);
            targets.remove(0);
            counts[10]++;
        }
    }

    int arrive(int[] p, int here) {
        int why = judge(p, here);
        counts[why] += why > 0 ? 1 : 0;
        return why;
    }

    private int judge(int[] p, int here) {
        if (p.length < 20 || p[0] != 69 || number(p, 2, 2) != p.length) {
            return 1;
        }
        if (Packets.sum(p, 0, 20) != 0) {
            return 2;
        }
        if (number(p, 16, 4) != Packets.ADDRESS + here) {
            return 3;
        }
        if (p[7] != 0 || p[6] != 0 && p[6] != 64) {
            return 4;
        }
        int start = p[9] == 17 ? udpFrame(p) : p[9] == 47 ? greFrame(p) : -1;
        if (start < 0) {
            return 5;
        }
        int net = (int) number(p, start - 4, 3);
        if (!has(here, net)) {
            return 6;
        }
        long from = number(p, 12, 4) - Packets.ADDRESS;
        if (from < 0 || from >= endpoints || from == here || !has((int) from, net)) {
            return 7;
        }
        return judgeFrame(Arrays.copyOfRange(p, start, p.length), here, net, (int) from);
    }

    private int judgeFrame(int[] frame, int here, int net, int from) {
        if (frame[6] % 2 == 1) {
            return 8;
        }
        learn(here, net, number(frame, 6, 6), new Place(from, -1));
        Place place = find(here, net, frame);
        if (place != null && place.host < 0) {
            return 9;
        }
        for (int o = 0; o < hosts.size(); o++) {
            Host other = hosts.get(o);
            if (other.endpoint == here && (place == null ? other.net == net : place.host == o)) {
                other.take(frame);
            }
        }
        return 0;
    }

    private static int udpFrame(int[] p) {
        boolean good = p.length >= 50 && number(p, 24, 2) == p.length - 20 && number(p, 22, 2) == 4789
            && p[26] == 0 && p[27] == 0 && p[28] / 8 % 2 == 1;
        return good ? 36 : -1;
    }

    private static int greFrame(int[] p) {
        if (p.length < 42 || number(p, 22, 2) != 25944) {
            return -1;
        }
        if (number(p, 20, 2) == 8192) {
            return 28;
        }
        return number(p, 20, 2) == 40960 && p.length >= 46 && Packets.sum(p, 20, p.length) == 0 ? 32 : -1;
    }

    int tick(int ticks) {
        int gone = 0;
        for (Map<List<Long>, Place> memory : memories) {
            int before = memory.size();
            memory.values().forEach(p -> p.age += ticks);
            memory.values().removeIf(p -> p.age > 300);
            gone += before - memory.size();
        }
        return gone;
    }
}
