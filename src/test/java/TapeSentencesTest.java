/** Promises 1 to 11, sentence by sentence: a new object, the TAPE and what it tells, OUT. */
public final class TapeSentencesTest {
    private static final Sentences S = new Sentences("Promise 1", "Promise 2", "Promise 3", "Promise 4", "Promise 5",
            "Promise 6", "Promise 7", "Promise 8", "Promise 9", "Promise 10", "Promise 11");
    private static final int BLANKS = 0x20202020;
    private static final int[] FAR = {-1, 4, 5, 14, 256, Integer.MIN_VALUE, Integer.MAX_VALUE};

    public static void main(String[] args) {
        newObject();
        feed();
        end();
        facts();
        factsRefused();
        version();
        rider();
        riderRefused();
        takeOff();
        takeOffRefused();
        world();
        write();
        octet();
        back();
        manyCalls();
        S.close("TapeSentencesTest");
    }

    private static ClauseBench bench(String... versions) {
        ClauseBench x = new ClauseBench();
        Tape.facts(x, "a b c");
        for (int v = 0; v < versions.length; v++) {
            Tape.version(x, v, versions[v]);
        }
        return x;
    }

    private static int blanks(ClauseBench x) {
        return x.feed(BLANKS, BLANKS, BLANKS, BLANKS, BLANKS);
    }

    private static String bans(int clauses) {
        StringBuilder text = new StringBuilder("pa: ban x to y");
        for (int k = 1; k < clauses; k++) {
            text.append("; p").append((char) ('a' + k)).append(": ban x to y");
        }
        return text.toString();
    }

    private static void newObject() {
        S.of("Promise 1", "No FACTS,");
        ClauseBench x = new ClauseBench();
        for (int what = 0; what <= 7; what++) {
            S.due("count " + what, x.count(what), 0);
        }
        S.due("a WORLD", x.world(), -1);
        S.due("a VERSION", Tape.version(x, 0, "p: ban x to y"), -1);
        S.due("none are told already", Tape.facts(x, "a"), 1);
        S.of("Promise 1", "no VERSIONS.");
        ClauseBench y = new ClauseBench();
        Tape.facts(y, "a");
        for (int v = 0; v < 4; v++) {
            S.due("count", y.count(10 + v), -1);
            S.due("write", y.write(v), -1);
            S.due("holds", y.holds(v, 0, 0), -1);
            S.due("outcomes", y.outcomes(v, 0), -1);
            S.due("differs", y.differs(v, v), -2);
            S.due("quarrel", y.quarrel(v), -2);
            S.due("rider", Tape.rider(y, v, v, "add p: ban x to y"), -1);
        }
        S.due("no RIDER", y.takeOff(), false);
        S.due("no QUARREL", y.quarreling(0), -1);
        S.due("another object has what it was told", Tape.version(y, 0, "p: ban x to y"), 1);
        S.due("a new one has it not", new ClauseBench().count(10), -1);
    }

    /** Blanks, and a byte at one of twenty places. */
    private static int feedOne(ClauseBench x, int place, int b) {
        int[] fed = {BLANKS, BLANKS, BLANKS, BLANKS, BLANKS};
        int shift = 24 - 8 * (place % 4);
        fed[place / 4] = fed[place / 4] & ~(255 << shift) | b << shift;
        return x.feed(fed[0], fed[1], fed[2], fed[3], fed[4]);
    }

    private static void feed() {
        S.of("Promise 2", "Twenty bytes come behind the TAPE, of each number the highest first: how many it has;");
        for (int place = 0; place < 20; place++) {
            for (int b : new int[] {0, 1, 127, 128, 255}) {
                ClauseBench x = new ClauseBench();
                S.due("first", feedOne(x, place, b), 20);
                S.due("byte " + b + " at " + place, x.facts(), Tape.fault(place, 0));
                S.due("first again", blanks(x), 20);
                S.due("second", feedOne(x, place, b), 40);
                S.due("behind twenty others", x.facts(), Tape.fault(20 + place, 0));
            }
        }
        ClauseBench y = bench();
        y.feed(0x70713a62, 0x616e2078, 0x20746f20, 0x79202020, 0x20202020);
        S.due("pq: ban x to y", y.version(0), 1);
        S.due("its first letter", y.letter(0, 0, 0), 'p');
        S.due("its second", y.letter(0, 0, 1), 'q');
        S.of("Promise 2", "NONE, and none comes: it would have more than 900.");
        ClauseBench z = bench();
        for (int k = 1; k <= 45; k++) {
            S.due("feed " + k, blanks(z), 20 * k);
        }
        S.due("behind 900", z.feed(0, 0, 0, 0, 0), -1);
        S.due("none comes", z.count(5), 900);
        for (int size = 899; size > 880; size--) {
            z.end(size);
            S.due("behind " + size, z.feed(0, 0, 0, 0, 0), -1);
            S.due("none comes", z.count(5), size);
        }
        z.end(880);
        S.due("just 900", blanks(z), 900);
        S.due("none of the others came", z.world(), 8);
    }

    private static void end() {
        S.of("Promise 3", "The TAPE has its first n bytes alone: n;");
        ClauseBench x = new ClauseBench();
        S.due("of an empty one", x.end(0), 0);
        Tape.put(x, "a b c dead");
        S.due("all", x.end(10), 10);
        S.due("they are there", x.count(5), 10);
        S.due("some", x.end(7), 7);
        S.due("they are there", x.count(5), 7);
        S.due("others come behind", x.feed(0x20642065, BLANKS, BLANKS, BLANKS, BLANKS), 27);
        S.due("a b c d d", x.facts(), Tape.fault(8, 2));
        Tape.put(x, "a b c dead");
        x.end(7);
        S.due("a b c d", x.facts(), 4);
        Tape.put(x, "d");
        S.due("none", x.end(0), 0);
        S.due("none is there", x.count(5), 0);
        for (int k = 0; k < 45; k++) {
            blanks(x);
        }
        S.due("of 900", x.end(900), 900);
        S.of("Promise 3", "NONE, and nothing happens, if it has not so many, or n is below 0.");
        ClauseBench y = new ClauseBench();
        S.due("of an empty one", y.end(1), -1);
        S.due("of an empty one", y.end(-1), -1);
        Tape.put(y, "a b c");
        for (int n : new int[] {6, 7, 20, 900, 901, Integer.MAX_VALUE, -1, -5, Integer.MIN_VALUE}) {
            S.due("end " + n, y.end(n), -1);
            S.due("nothing happens", y.count(5), 5);
        }
        S.due("what is cut off is gone", y.end(3), 3);
        S.due("what is cut off is gone", y.end(5), -1);
        S.due("a b", y.facts(), 2);
    }

    private static void facts() {
        S.of("Promise 4", "The TAPE, which is empty then, tells the FACTS: how many;");
        String[] words = "a bb abcdefghijkl d e f g h".split(" ");
        StringBuilder text = new StringBuilder();
        for (int n = 1; n <= 8; n++) {
            text.append(n % 2 == 0 ? "\n" : " ").append(words[n - 1]);
            ClauseBench x = new ClauseBench();
            S.due(n + " FACTS", Tape.facts(x, text.toString()), n);
            S.due("the TAPE is empty", x.count(5), 0);
            S.due("FACTS", x.count(0), n);
            S.due("CASES", x.count(3), 1 << n);
            S.due("told already", Tape.facts(x, "new"), -1);
            S.due("FACTS", x.count(0), n);
        }
        S.of("Promise 4", "NONE if they are told already.");
        ClauseBench x = bench();
        for (String again : new String[] {"d", "a b c", "", "if", "a b c d e f g h i"}) {
            S.due("'" + again + "'", Tape.facts(x, again), -1);
            S.due("the TAPE is empty", x.count(5), 0);
            S.due("they are as they were", x.count(0), 3);
        }
        S.due("the first are FACTS", Tape.world(x, "a and b and c"), 1);
        S.due("the others are none", Tape.world(x, "d"), Tape.fault(0, 3));
    }

    private static void factsFault(String text, int place, int kind) {
        ClauseBench x = new ClauseBench();
        S.due("'" + text + "'", Tape.facts(x, text), Tape.fault(place, kind));
        S.due("the TAPE is empty", x.count(5), 0);
        S.due("none are told", x.count(0), 0);
        S.due("no CASES", x.count(3), 0);
        S.due("a VERSION", Tape.version(x, 0, "p: ban x to y"), -1);
        S.due("they may be told yet", Tape.facts(x, "e"), 1);
        S.due("alone", Tape.world(x, "a"), Tape.fault(0, 3));
    }

    private static void factsRefused() {
        S.of("Promise 4", "-2 - its FAULT (0, 1, 2 for a WORD told twice or of the language, 6 for the ninth);");
        factsFault("", 0, 0);
        factsFault(" \n ", 3, 0);
        factsFault("a 1", 2, 0);
        factsFault("a ;", 2, 0);
        factsFault("a b; c", 3, 0);
        factsFault("(a)", 0, 0);
        factsFault("a B", 2, 0);
        factsFault("a 400", 2, 0);
        factsFault("a 0001", 2, 1);
        factsFault("a abcdefghijklm", 2, 1);
        factsFault("a b a", 4, 2);
        for (String word : "define as duty right ban to by days workdays if unless over and or not strike replace add"
                .split(" ")) {
            factsFault(word, 0, 2);
            factsFault("a " + word, 2, 2);
        }
        factsFault("a b c d e f g h i", 16, 6);
        factsFault("a b c d e f g h i j", 16, 6);
        factsFault("a b c d e f g h b", 16, 2);
        factsFault("a b c d e f g h 1", 16, 0);
        factsFault("a b c d e f g h abcdefghijklm", 16, 1);
    }

    private static void version() {
        S.of("Promise 5", "The TAPE, which is empty then, becomes VERSION v (0 to 3; in place of what it was): "
                + "how many CLAUSES;");
        ClauseBench x = bench();
        for (int v = 0; v < 4; v++) {
            S.due("24 CLAUSES", Tape.version(x, v, bans(24)), 24);
            S.due("the TAPE is empty", x.count(5), 0);
            S.due("in place of what it was", Tape.version(x, v, "k: right z to w; define n as a"), 2);
            S.due("CLAUSES", x.count(10 + v), 2);
            S.due("what it is", Tape.written(x, v), "k: right z to w; define n as a");
            S.due("what was is gone", x.clause(v, 2, 0), -1);
        }
        Tape.version(x, 1, "p: ban x to y");
        S.due("the others stay", x.count(10), 2);
        S.due("the others stay", x.count(12), 2);
        S.of("Promise 5", "-2 - its FAULT (then VERSION v stays);");
        for (String text : new String[] {"", "p", "p: ban x to y;", "p: ban x to y; p: ban x to y"}) {
            int place = text.lastIndexOf('p') > 0 ? text.lastIndexOf('p') : text.length();
            S.due("'" + text + "'", Tape.version(x, 0, text), Tape.fault(place, text.length() > 20 ? 2 : 0));
            S.due("the TAPE is empty", x.count(5), 0);
            S.due("it stays", Tape.written(x, 0), "k: right z to w; define n as a");
        }
        ClauseBench z = bench();
        S.due("refused", Tape.version(z, 2, "p"), Tape.fault(1, 0));
        S.due("there is none", z.count(12), -1);
        S.of("Promise 5", "NONE without FACTS, or such a VERSION.");
        ClauseBench y = new ClauseBench();
        S.due("without FACTS", Tape.version(y, 0, "p: ban x to y"), -1);
        S.due("the TAPE is empty", y.count(5), 0);
        S.due("without FACTS, with a FAULT", Tape.version(y, 0, "p"), -1);
        S.due("no PARTY comes", y.count(1), 0);
        for (int v : FAR) {
            S.due("VERSION " + v, Tape.version(x, v, "p: ban new to y"), -1);
            S.due("VERSION " + v + " with a FAULT", Tape.version(x, v, "p"), -1);
            S.due("the TAPE is empty", x.count(5), 0);
            S.due("no PARTY comes", x.count(1), 2);
        }
    }

    private static void rider() {
        S.of("Promise 6", "The TAPE, which is empty then, is a RIDER put on VERSION v: what comes of it is VERSION w "
                + "(also the same): how many CLAUSES;");
        for (int v = 0; v < 4; v++) {
            for (int w = 0; w < 4; w++) {
                ClauseBench x = bench("p: ban x to y", "p: ban x to y", "p: ban x to y", "p: ban x to y");
                S.due("on " + v + " to " + w, Tape.rider(x, v, w, "add q: ban x to y; add r: ban x to y"), 3);
                S.due("the TAPE is empty", x.count(5), 0);
                for (int u = 0; u < 4; u++) {
                    S.due("VERSION " + u, x.count(10 + u), u == w ? 3 : 1);
                }
                S.due("what came", Tape.written(x, w), "p: ban x to y; q: ban x to y; r: ban x to y");
            }
        }
        ClauseBench y = bench(bans(23));
        S.due("to one that is not yet", Tape.rider(y, 0, 3, "add q: ban x to y"), 24);
        S.due("CLAUSES", y.count(13), 24);
    }

    private static void riderStays(String text, int answer) {
        ClauseBench x = bench("p: ban x to y; q: ban x to z over p", "k: right z to w");
        S.due("'" + text + "'", Tape.rider(x, 0, 1, text), answer);
        S.due("the TAPE is empty", x.count(5), 0);
        S.due("VERSION v stays", Tape.written(x, 0), "p: ban x to y; q: ban x to z over p");
        S.due("VERSION w stays", Tape.written(x, 1), "k: right z to w");
        S.due("no RIDER is on", x.count(4), 0);
        S.due("none to take off", x.takeOff(), false);
        S.due("no PARTY comes", x.count(1), 2);
    }

    private static void riderRefused() {
        S.of("Promise 6", "-2 - its FAULT;");
        riderStays("", Tape.fault(0, 0));
        riderStays("strike", Tape.fault(6, 0));
        riderStays("strike q; strike z", Tape.fault(17, 3));
        riderStays("add t: ban new to y;", Tape.fault(20, 0));
        riderStays("strike if", Tape.fault(7, 2));
        S.of("Promise 6", "-2 if what comes of it is refused;");
        riderStays("strike p", -2);
        riderStays("strike q; strike p", -2);
        riderStays("add p: ban new to y", -2);
        riderStays("add t: ban new to y if zz", -2);
        S.of("Promise 6", "NONE without a VERSION v, or such a w.");
        ClauseBench x = bench("p: ban x to y");
        for (int v = 1; v < 4; v++) {
            S.due("without VERSION " + v, Tape.rider(x, v, 0, "add q: ban new to y"), -1);
        }
        for (int v : FAR) {
            S.due("VERSION " + v, Tape.rider(x, v, 0, "add q: ban new to y"), -1);
            S.due("VERSION " + v + " with a FAULT", Tape.rider(x, v, 0, "add"), -1);
            S.due("to " + v, Tape.rider(x, 0, v, "add q: ban new to y"), -1);
            S.due("to " + v + " with a FAULT", Tape.rider(x, 0, v, "add"), -1);
            S.due("the TAPE is empty", x.count(5), 0);
        }
        S.due("it stays", x.count(10), 1);
        S.due("no RIDER is on", x.count(4), 0);
        S.due("no PARTY comes", x.count(1), 1);
        S.due("without FACTS", Tape.rider(new ClauseBench(), 0, 0, "add q: ban x to y"), -1);
    }

    private static void takeOff() {
        S.of("Promise 7", "The latest RIDER that was put on and is not taken off yet is taken off: "
                + "VERSION w is what it was ahead of it: true;");
        ClauseBench x = bench("p: ban x to y", "k: right z to w");
        Tape.rider(x, 0, 0, "add q: ban x to y");
        Tape.rider(x, 0, 1, "add r: ban x to y");
        Tape.rider(x, 1, 2, "strike p");
        Tape.rider(x, 1, 1, "strike q");
        S.due("four are on", x.count(4), 4);
        S.due("the fourth", x.takeOff(), true);
        S.due("what it was", Tape.written(x, 1), "p: ban x to y; q: ban x to y; r: ban x to y");
        S.due("the third stays", x.count(12), 2);
        S.due("the third", x.takeOff(), true);
        S.due("there was none", x.count(12), -1);
        S.due("there was none", x.outcomes(2, 0), -1);
        S.due("a refused RIDER is none", Tape.rider(x, 0, 1, "strike z"), Tape.fault(7, 3));
        S.due("a refused VERSION changes none", Tape.version(x, 1, "p"), Tape.fault(1, 0));
        S.due("the second", x.takeOff(), true);
        S.due("what it was", Tape.written(x, 1), "k: right z to w");
        S.due("one more", Tape.rider(x, 0, 3, "strike p"), 1);
        S.due("is the latest", x.takeOff(), true);
        S.due("there was none", x.count(13), -1);
        S.due("the first", x.takeOff(), true);
        S.due("what it was", Tape.written(x, 0), "p: ban x to y");
        S.due("none is on", x.count(4), 0);
        ClauseBench y = bench("p: ban x to y if a");
        Tape.rider(y, 0, 0, "replace p: duty z to w by 5 days if b");
        y.takeOff();
        S.due("what it meant", y.holds(0, 0, 1), 1);
        S.due("what it meant", y.clause(0, 0, 0), 3);
        S.due("PARTIES that came stay", y.count(1), 2);
    }

    private static void takeOffRefused() {
        S.of("Promise 7", "false: there is none,");
        ClauseBench x = bench("p: ban x to y");
        S.due("none yet", x.takeOff(), false);
        Tape.rider(x, 0, 0, "add q: ban x to y");
        S.due("one", x.takeOff(), true);
        S.due("none any more", x.takeOff(), false);
        S.due("nothing happens", Tape.written(x, 0), "p: ban x to y");
        S.due("without FACTS", new ClauseBench().takeOff(), false);
        S.of("Promise 7", "or VERSION w is not any more the one that came of it "
                + "(then it is forgotten, and nothing else happens).");
        Tape.rider(x, 0, 1, "add q: ban x to y");
        Tape.rider(x, 0, 2, "add r: ban x to y");
        Tape.version(x, 2, "k: right x to y");
        S.due("two are on", x.count(4), 2);
        S.due("it is another", x.takeOff(), false);
        S.due("it is forgotten", x.count(4), 1);
        S.due("nothing else happens", Tape.written(x, 2), "k: right x to y");
        S.due("nothing else happens", x.count(11), 2);
        S.due("the one ahead of it is the latest", x.takeOff(), true);
        S.due("there was none", x.count(11), -1);

        Tape.rider(x, 0, 1, "add q: ban x to y");
        Tape.version(x, 1, "l: ban x to y");
        Tape.rider(x, 0, 1, "add r: ban x to y");
        S.due("the latest", x.takeOff(), true);
        S.due("what it was", Tape.written(x, 1), "l: ban x to y");
        S.due("that is not what came of the first", x.takeOff(), false);
        S.due("nothing else happens", Tape.written(x, 1), "l: ban x to y");
        S.due("none is on", x.count(4), 0);

        Tape.rider(x, 0, 1, "add q: ban x to y");
        Tape.rider(x, 0, 1, "add r: ban x to y");
        S.due("what came of it is in place of the first's", x.takeOff(), true);
        S.due("and the first's is back", x.takeOff(), true);
        S.due("what it was", Tape.written(x, 1), "l: ban x to y");

        Tape.rider(x, 0, 1, "add q: ban x to y");
        S.due("the base may change", Tape.version(x, 0, "m: ban x to y"), 1);
        S.due("what came of it is there", x.takeOff(), true);
        Tape.rider(x, 0, 1, "add q: ban x to y");
        x.write(1);
        x.back();
        S.due("the same text told anew", x.version(1), 2);
        S.due("is not the one that came of it", x.takeOff(), false);
        S.due("nothing else happens", x.count(11), 2);
    }

    private static void world() {
        S.of("Promise 8", "The TAPE, which is empty then, is the WORLD (a COND; without a byte but blanks: all CASES): "
                + "how many CASES it has;");
        ClauseBench x = bench("p: ban x to y");
        String[] conds = {"a", "not a", "a and b and c", "a or b or c", "a and not a", "a or not a", "(a or b) and c",
            "\n not (a and b)\n", "a and a", "", " ", "\n", " \n \n"};
        int[] wants = {4, 4, 1, 7, 0, 8, 3, 6, 4, 8, 8, 8, 8};
        for (int k = 0; k < conds.length; k++) {
            Tape.world(x, "a and b");
            S.due("'" + conds[k] + "'", Tape.world(x, conds[k]), wants[k]);
            S.due("the TAPE is empty", x.count(5), 0);
            S.due("CASES", x.count(3), wants[k]);
        }
        StringBuilder facts = new StringBuilder();
        for (int n = 1; n <= 8; n++) {
            facts.append(" f").append((char) ('a' + n));
            ClauseBench y = new ClauseBench();
            Tape.facts(y, facts.toString());
            S.due("the last of " + n, Tape.world(y, "f" + (char) ('a' + n)), 1 << (n - 1));
            S.due("not the last of " + n, Tape.world(y, "not f" + (char) ('a' + n)), 1 << (n - 1));
            S.due("all of " + n, Tape.world(y, ""), 1 << n);
        }
        S.of("Promise 8", "-2 - its FAULT (then it stays);");
        Tape.world(x, "a and b");
        String[] wrong = {"a b", "z", "a or", "if", "a;", "a)", "(a", "1", "a or abcdefghijklm", "p", "a and 400",
            "not not not not not not not not not not not a", "a unless b"};
        int[] places = {2, 0, 4, 0, 1, 1, 2, 0, 5, 0, 6, 40, 2};
        int[] kinds = {0, 3, 0, 0, 0, 0, 0, 0, 1, 3, 0, 6, 0};
        for (int k = 0; k < wrong.length; k++) {
            S.due(wrong[k], Tape.world(x, wrong[k]), Tape.fault(places[k], kinds[k]));
            S.due("the TAPE is empty", x.count(5), 0);
            S.due("it stays", x.count(3), 2);
            S.due("it stays", x.gap(0, 0), 3);
        }
        S.of("Promise 8", "NONE without FACTS.");
        ClauseBench z = new ClauseBench();
        for (String text : new String[] {"", "a", "if"}) {
            S.due("'" + text + "'", Tape.world(z, text), -1);
            S.due("the TAPE is empty", z.count(5), 0);
        }
        S.due("no CASES", z.count(3), 0);
        Tape.facts(z, "a b");
        S.due("all CASES at first", z.count(3), 4);
    }

    private static void write() {
        S.of("Promise 9", "VERSION v is WRITTEN to OUT: how many bytes;");
        ClauseBench x = bench("p : ban x to y if(a)", "q:duty x to y by 007days", "r:right x to z", bans(24));
        S.due("VERSION 0", x.write(0), 20);
        S.due("OUT", x.count(6), 20);
        S.due("VERSION 1", Tape.written(x, 1), "q: duty x to y by 7 days");
        S.due("in place of what it was", x.count(6), 24);
        S.due("VERSION 3", Tape.written(x, 3), bans(24));
        S.due("VERSION 2", Tape.written(x, 2), "r: right x to z");
        S.due("VERSION 0 again", Tape.written(x, 0), "p: ban x to y if (a)");
        S.due("the TAPE is as it was", x.count(5), 0);
        ClauseBench z = bench();
        String dense = "p:ban x to y if(((((a)))))" + "and(((((a)))))".repeat(45);
        S.due("many signs", Tape.version(z, 0, dense), 1);
        S.due("bytes", z.write(0), dense.length() + 2 + 2 * 45);
        StringBuilder most = new StringBuilder("p:ban x to y if(a)");
        for (int k = 1; k < 24; k++) {
            most.append(";z").append((char) ('a' + k)).append(":duty x to y by0days if(a)or(a)");
        }
        S.due("a VERSION", Tape.version(z, 0, most.toString()), 24);
        S.due("more than 900 bytes", z.write(0), most.length() + 2 + 23 * 7);
        S.due("the last of them", z.octet(most.length() + 2 + 23 * 7 - 1), ')');
        S.of("Promise 9", "NONE without it.");
        ClauseBench y = bench("p: ban x to y");
        y.write(0);
        for (int v : new int[] {1, 2, 3, -1, 4, 10, Integer.MIN_VALUE, Integer.MAX_VALUE}) {
            S.due("VERSION " + v, y.write(v), -1);
            S.due("OUT is as it was", y.count(6), 13);
        }
    }

    private static void octet() {
        S.of("Promise 10", "Byte i of OUT;");
        ClauseBench x = bench("p: duty x to y by 5 days if (a)");
        String text = "p: duty x to y by 5 days if (a)";
        S.due("bytes", x.write(0), text.length());
        for (int i = 0; i < text.length(); i++) {
            S.due("byte " + i, x.octet(i), text.charAt(i));
        }
        S.due("they stay", x.count(6), text.length());
        S.of("Promise 10", "NONE.");
        S.due("of a new object", new ClauseBench().octet(0), -1);
        for (int i : new int[] {text.length(), text.length() + 1, 900, 1800, Integer.MAX_VALUE, -1, Integer.MIN_VALUE}) {
            S.due("byte " + i, x.octet(i), -1);
        }
        Tape.version(x, 1, "p: ban x to y");
        x.write(1);
        S.due("the last", x.octet(12), 'y');
        S.due("behind a shorter one", x.octet(13), -1);
        x.back();
        S.due("of an empty OUT", x.octet(0), -1);
    }

    private static void back() {
        S.of("Promise 11", "OUT's bytes come behind the TAPE, and OUT is empty then: how many the TAPE has;");
        ClauseBench x = bench("p: ban x to y");
        S.due("none come behind none", x.back(), 0);
        x.write(0);
        S.due("behind none", x.back(), 13);
        S.due("OUT is empty", x.count(6), 0);
        S.due("none come", x.back(), 13);
        S.due("the TAPE", x.count(5), 13);
        S.due("what came", x.version(1), 1);
        Tape.put(x, "q:ban x to z;");
        x.write(0);
        S.due("behind others", x.back(), 26);
        S.due("what came", x.version(1), 2);
        S.due("what came", Tape.written(x, 1), "q: ban x to z; p: ban x to y");
        S.of("Promise 11", "NONE, and nothing happens: it would have more than 900.");
        for (int k = 0; k < 45; k++) {
            blanks(x);
        }
        x.write(0);
        for (int size : new int[] {900, 899, 888}) {
            x.end(size);
            S.due("behind " + size, x.back(), -1);
            S.due("the TAPE is as it was", x.count(5), size);
            S.due("OUT is as it was", x.count(6), 13);
            S.due("OUT is as it was", x.octet(12), 'y');
        }
        x.end(887);
        S.due("just 900", x.back(), 900);
        S.due("OUT is empty", x.count(6), 0);
        S.due("none behind 900", x.back(), 900);
        S.due("what came", x.version(2), 1);
        ClauseBench y = bench("p:ban x to y if(((((a)))))" + "and(((((a)))))".repeat(59));
        S.due("more than 900 bytes", y.write(0) > 900, true);
        S.due("behind none", y.back(), -1);
        S.due("the TAPE is as it was", y.count(5), 0);
    }

    private static void manyCalls() {
        // Each RIDER takes two calls at least, so this is the most that an object can be asked to keep.
        S.of("What it is", "An object is used for at most 512 calls after it has been made;");
        ClauseBench x = new ClauseBench();
        x.feed(0x61202020, BLANKS, BLANKS, BLANKS, BLANKS);
        x.facts();
        x.feed(0x703a6261, 0x6e207820, 0x746f2079, BLANKS, BLANKS);
        S.due("the 4th call", x.version(0), 1);
        int riders = 253;
        for (int k = 0; k < riders; k++) {
            x.feed(0x61646420, 0x713a6261, 0x6e207820, 0x746f2079, BLANKS);
            S.due("a RIDER", x.rider(0, 1), 2);
        }
        S.due("the 511th call", x.count(4), riders);
        S.due("the 512th call", x.takeOff(), true);
        ClauseBench y = new ClauseBench();
        Tape.facts(y, "a");
        Tape.version(y, 0, "p: ban x to y");
        for (int k = 0; k < 167; k++) {
            y.feed(0x61646420, 0x713a6261, 0x6e207820, 0x746f2079, BLANKS);
            y.rider(0, k % 3 + 1);
        }
        for (int k = 0; k < 167; k++) {
            S.due("taken off", y.takeOff(), true);
        }
        S.due("none is on", y.count(4), 0);
        for (int v = 1; v < 4; v++) {
            S.due("there was none", y.count(10 + v), -1);
        }
    }
}
