/** What the tests share: texts put on the TAPE, and answers held against those that are due. */
final class Tape {
    private int wrong;

    /** Puts a text on the (empty) TAPE: what is fed is padded, then cut. */
    static void put(ClauseBench bench, String text) {
        int length = text.length();
        int[] fed = new int[5];
        for (int from = 0; from < length; from += 20) {
            for (int i = 0; i < 5; i++) {
                fed[i] = 0;
                for (int j = 0; j < 4; j++) {
                    int at = from + 4 * i + j;
                    fed[i] = fed[i] << 8 | (at < length ? text.charAt(at) & 255 : 0);
                }
            }
            bench.feed(fed[0], fed[1], fed[2], fed[3], fed[4]);
        }
        bench.end(length);
    }

    static int facts(ClauseBench bench, String text) {
        put(bench, text);
        return bench.facts();
    }

    static int version(ClauseBench bench, int v, String text) {
        put(bench, text);
        return bench.version(v);
    }

    static int rider(ClauseBench bench, int v, int w, String text) {
        put(bench, text);
        return bench.rider(v, w);
    }

    static int world(ClauseBench bench, String text) {
        put(bench, text);
        return bench.world();
    }

    /** A VERSION as it is WRITTEN, read from OUT byte by byte. */
    static String written(ClauseBench bench, int v) {
        int length = bench.write(v);
        StringBuilder text = new StringBuilder();
        for (int i = 0; i < length; i++) {
            text.append((char) bench.octet(i));
        }
        return text.toString();
    }

    /** The answer that tells a FAULT. */
    static int fault(int place, int kind) {
        return -2 - (1 + place * 8 + kind);
    }

    void due(String what, long got, long want) {
        if (got != want) {
            wrong++;
            System.out.println(what + ": answered " + got + ", due is " + want);
        }
    }

    void due(String what, boolean got, boolean want) {
        due(what, got ? 1 : 0, want ? 1 : 0);
    }

    void due(String what, String got, String want) {
        if (!got.equals(want)) {
            wrong++;
            System.out.println(what + ": answered '" + got + "', due is '" + want + "'");
        }
    }

    void close(String name) {
        System.out.println(name + (wrong == 0 ? ": all answers are as due" : ": " + wrong + " answers are not as due"));
        if (wrong != 0) {
            System.exit(1);
        }
    }
}
