/** Promise 23: count. */
public final class CountTest {
    public static void main(String[] args) {
        Due due = new Due();
        OverlayFabric x = new OverlayFabric();
        for (int what : new int[] {-1, 13, Integer.MIN_VALUE, Integer.MAX_VALUE}) {
            due.eq("count(" + what + ")", x.count(what), -1);
        }
        due.counts(x, 0, 0, 0, 0, 0, 0, 0, 0, 0, 0, 0, 0, 0);
        x.station(0, 7, 1);
        x.station(1, 7, 2);
        x.station(2, 7, 3);
        // Local frames are no packets, and what is answered NONE counts nowhere.
        x.send(0, Packets.mac(1), 0);
        x.send(9, 0, 0);
        x.deliver(0);
        due.counts(x, 0, 0, 0, 0, 0, 0, 0, 0, 0, 0, 0, 1, 0);
        x.send(0, Packets.ALL, 0);
        due.counts(x, 2, 0, 0, 0, 0, 0, 0, 0, 0, 0, 0, 1, 0);
        x.twice(0);
        x.twice(0);
        due.counts(x, 2, 0, 0, 0, 0, 0, 0, 0, 0, 0, 0, 2, 0);
        x.poke(1, 0, 1);
        x.twice(1);
        x.twice(1);
        x.poke(1, 0, 1);
        x.poke(1, 1, 1);
        x.twice(1);
        x.lose(1);
        due.counts(x, 2, 2, 1, 0, 0, 0, 0, 0, 0, 0, 0, 2, 0);
        x.poke(0, 42, 1);
        x.twice(0);
        x.poke(0, 42, 1);
        x.poke(0, 28, 8);
        x.twice(0);
        x.poke(0, 28, 8);
        x.poke(0, 34, 1);
        x.twice(0);
        x.poke(0, 34, 1);
        x.move(0, 1);
        x.twice(0);
        due.counts(x, 2, 2, 1, 0, 0, 1, 1, 1, 1, 0, 0, 2, 0);
        due.eq("count(13)", x.count(13), -1);
        due.end();
    }
}
