/** Promises 20 to 22: got, frame and length. */
public final class FramesTest {
    private static final Due DUE = new Due();

    public static void main(String[] args) {
        noneSuch();
        latestSix();
        DUE.end();
    }

    private static void noneSuch() {
        OverlayFabric x = new OverlayFabric();
        x.station(0, 7, 1);
        x.station(0, 7, 2);
        DUE.eq("length(1, 0)", x.length(1, 0), -1);
        DUE.eq("frame(1, 0, 0)", x.frame(1, 0, 0), -1);
        x.send(0, 0, 0);
        for (int s : new int[] {-1, 2, 32, Integer.MIN_VALUE, Integer.MAX_VALUE}) {
            DUE.eq("got(" + s + ")", x.got(s), -1);
            DUE.eq("frame(" + s + ", 0, 0)", x.frame(s, 0, 0), -1);
            DUE.eq("length(" + s + ", 0)", x.length(s, 0), -1);
        }
        for (int k : new int[] {-1, 1, 5, 6, Integer.MIN_VALUE, Integer.MAX_VALUE}) {
            DUE.eq("frame(1, " + k + ", 0)", x.frame(1, k, 0), -1);
            DUE.eq("length(1, " + k + ")", x.length(1, k), -1);
        }
        for (int i : new int[] {-1, 14, Integer.MIN_VALUE, Integer.MAX_VALUE}) {
            DUE.eq("frame(1, 0, " + i + ")", x.frame(1, 0, i), -1);
        }
        DUE.eq("got(0)", x.got(0), 0);
        DUE.eq("got(1)", x.got(1), 1);
        DUE.eq("length(0, 0)", x.length(0, 0), -1);
    }

    private static void latestSix() {
        OverlayFabric x = new OverlayFabric();
        x.station(0, 7, 1);
        x.station(0, 7, 2);
        for (int n = 0; n < 8; n++) {
            for (int b = 0; b < n; b++) {
                x.feed(10 * n + b);
            }
            x.send(0, 0, n);
            DUE.eq("got(1)", x.got(1), n + 1);
        }
        for (int k = 0; k < 6; k++) {
            int n = 7 - k;
            DUE.eq("length(1, " + k + ")", x.length(1, k), 14 + n);
            DUE.eq("frame(1, " + k + ", 13)", x.frame(1, k, 13), n);
            DUE.eq("frame(1, " + k + ", " + (13 + n) + ")", x.frame(1, k, 13 + n), 10 * n + n - 1);
            DUE.eq("frame(1, " + k + ", " + (14 + n) + ")", x.frame(1, k, 14 + n), -1);
        }
        DUE.eq("length(1, 6)", x.length(1, 6), -1);
        DUE.eq("frame(1, 6, 0)", x.frame(1, 6, 0), -1);
        // What came to a station goes with it.
        x.move(1, 2);
        DUE.eq("got(1)", x.got(1), 8);
        DUE.eq("length(1, 0)", x.length(1, 0), 21);
    }
}
