import java.util.List;

/** Compares answers with those that are due, and ends a test with exit code 1 if one was wrong. */
final class Due {
    private int asked;
    private int wrong;
    private String sentence = "";

    /** The document's sentence that the answers from here on stand for; told with each wrong one. */
    void says(String sentence) {
        this.sentence = "\"" + sentence + "\": ";
    }

    void eq(String call, long got, long want) {
        asked++;
        if (got != want) {
            wrong++;
            System.out.println(sentence + call + " answered " + got + ", due is " + want);
        }
    }

    /** Two lists of readings, row by row. */
    void same(String behind, List<String> got, List<String> want) {
        eq(behind + ": how many readings", got.size(), want.size());
        for (int i = 0; i < Math.min(got.size(), want.size()); i++) {
            asked++;
            if (!got.get(i).equals(want.get(i))) {
                wrong++;
                System.out.println(sentence + behind + " left " + got.get(i) + ", due is " + want.get(i));
            }
        }
    }

    void yes(String call, boolean got) {
        eq(call, got ? 1 : 0, 1);
    }

    void no(String call, boolean got) {
        eq(call, got ? 1 : 0, 0);
    }

    /** All bytes of a packet in flight, its size, and that there is no byte before or behind them. */
    void packet(OverlayFabric x, int i, int[] want) {
        eq("size(" + i + ")", x.size(i), want.length);
        for (int k = 0; k < want.length; k++) {
            eq("packet(" + i + ", " + k + ")", x.packet(i, k), want[k]);
        }
        eq("packet(" + i + ", -1)", x.packet(i, -1), OverlayFabric.NONE);
        eq("packet(" + i + ", " + want.length + ")", x.packet(i, want.length), OverlayFabric.NONE);
    }

    /** All bytes of a frame that came to a station, and its length. */
    void frame(OverlayFabric x, int station, int k, int[] want) {
        eq("length(" + station + ", " + k + ")", x.length(station, k), want.length);
        for (int i = 0; i < want.length; i++) {
            eq("frame(" + station + ", " + k + ", " + i + ")", x.frame(station, k, i), want[i]);
        }
        eq("frame(" + station + ", " + k + ", -1)", x.frame(station, k, -1), OverlayFabric.NONE);
        eq("frame(" + station + ", " + k + ", end)", x.frame(station, k, want.length), OverlayFabric.NONE);
    }

    /** One that an endpoint knows: net, MAC, other endpoint, station, age. */
    void knows(OverlayFabric x, int endpoint, int k, long... want) {
        for (int what = 0; what < want.length; what++) {
            eq("knows(" + endpoint + ", " + k + ", " + what + ")", x.knows(endpoint, k, what), want[what]);
        }
    }

    /** All counts, 0 to 12. */
    void counts(OverlayFabric x, int... want) {
        for (int what = 0; what < want.length; what++) {
            eq("count(" + what + ")", x.count(what), want[what]);
        }
    }

    void end() {
        if (asked == 0) {
            wrong++;
        }
        System.out.println(asked + " answers, " + wrong + " wrong");
        if (wrong != 0) {
            System.exit(1);
        }
    }
}
