/** Promises 12 to 21 and 24: what CLAUSES are and mean, and how VERSIONS compare. */
public final class MeaningTest {
    private static final Tape T = new Tape();

    public static void main(String[] args) {
        clause();
        letter();
        holds();
        overs();
        eightFacts();
        outcomes();
        differs();
        changed();
        quarrel();
        gap();
        count();
        T.close("MeaningTest");
    }

    private static ClauseBench bench(String facts, String... versions) {
        ClauseBench x = new ClauseBench();
        T.due(facts, Tape.facts(x, facts) > 0, true);
        for (int v = 0; v < versions.length; v++) {
            T.due(versions[v], Tape.version(x, v, versions[v]), versions[v].split(";").length);
        }
        return x;
    }

    private static void clauseIs(ClauseBench x, int v, int k, int... wants) {
        for (int what = 0; what < wants.length; what++) {
            T.due("clause " + k + " what " + what, x.clause(v, k, what), wants[what]);
        }
        T.due("another what", x.clause(v, k, wants.length), -1);
        T.due("another what", x.clause(v, k, -1), -1);
        T.due("another what", x.clause(v, k, Integer.MIN_VALUE), -1);
    }

    private static void clause() {
        ClauseBench x = bench("a b", "define late as a; p: duty tenant to pay by 365 workdays; "
                + "right12: right owner to enter".replace("12", "ful")
                + "; abcdefghijkl: ban tenant to enter over p and rightful and p; q: duty owner to pay by 0 days");
        clauseIs(x, 0, 0, 0, -1, -1, -1, -1, 0, 4);
        clauseIs(x, 0, 1, 1, 0, 0, 365, 1, 0, 1);
        clauseIs(x, 0, 2, 2, 1, 1, -1, -1, 0, 8);
        clauseIs(x, 0, 3, 3, 0, 1, -1, -1, 2, 12);
        clauseIs(x, 0, 4, 1, 1, 0, 0, 0, 0, 1);
        T.due("no such CLAUSE", x.clause(0, 5, 0), -1);
        T.due("no such CLAUSE", x.clause(0, -1, 0), -1);
        T.due("no such VERSION", x.clause(1, 0, 0), -1);
        T.due("no such VERSION", x.clause(4, 0, 0), -1);
        T.due("no such VERSION", x.clause(-1, 0, 0), -1);
    }

    private static void letter() {
        ClauseBench x = bench("a b", "define late as a; abcdefghijkz: duty tenant to pay by 365 workdays");
        String[] names = {"late", "abcdefghijkz"};
        for (int k = 0; k < 2; k++) {
            for (int i = 0; i < names[k].length(); i++) {
                T.due("letter", x.letter(0, k, i), names[k].charAt(i));
            }
            T.due("letter behind", x.letter(0, k, names[k].length()), -1);
            T.due("letter ahead", x.letter(0, k, -1), -1);
            T.due("letter far", x.letter(0, k, Integer.MAX_VALUE), -1);
            T.due("letter far", x.letter(0, k, Integer.MIN_VALUE), -1);
        }
        T.due("no such CLAUSE", x.letter(0, 2, 0), -1);
        T.due("no such CLAUSE", x.letter(0, -1, 0), -1);
        T.due("no such VERSION", x.letter(1, 0, 0), -1);
    }

    /** In which CASES a CLAUSE HOLDS, as 0s and 1s from CASE 0 on. */
    private static String table(ClauseBench x, int v, int k) {
        StringBuilder table = new StringBuilder();
        for (int which = 0; which < 1 << x.count(0); which++) {
            table.append(x.holds(v, k, which));
        }
        return table.toString();
    }

    private static void holds() {
        ClauseBench x = bench("a b c", "define n as a and b or c; define m as not n; p: ban x to y if a or b and c; "
                + "q: ban x to y unless not (a or b) and c; r: ban x to y if n unless a; s: ban x to y; "
                + "t: ban x to y if not m and not not a; u: ban x to y if not a and b");
        T.due("define", table(x, 0, 0), "00011111");
        T.due("define of a NAME", table(x, 0, 1), "11100000");
        T.due("and ahead of or", table(x, 0, 2), "01010111");
        T.due("unless", table(x, 0, 3), "11110111");
        T.due("if and unless", table(x, 0, 4), "00001010");
        T.due("without", table(x, 0, 5), "11111111");
        T.due("not", table(x, 0, 6), "00010101");
        T.due("not ahead of and", table(x, 0, 7), "00100010");
        T.due("no such CASE", x.holds(0, 0, 8), -1);
        T.due("no such CASE", x.holds(0, 0, -1), -1);
        T.due("no such CASE", x.holds(0, 0, Integer.MAX_VALUE), -1);
        T.due("no such CLAUSE", x.holds(0, 8, 0), -1);
        T.due("no such CLAUSE", x.holds(0, -1, 0), -1);
        T.due("no such VERSION", x.holds(1, 0, 0), -1);
        Tape.world(x, "a and not a");
        T.due("also beyond the WORLD", table(x, 0, 0), "00011111");
    }

    private static void overs() {
        ClauseBench x = bench("a b c", "p: duty x to y by 1 days; q: ban x to y if a over p; "
                + "r: right x to y if b over q; s: right x to y if c over r and p");
        T.due("p", table(x, 0, 0), "10110000");
        T.due("q", table(x, 0, 1), "01000101");
        T.due("r", table(x, 0, 2), "00110000");
        T.due("s", table(x, 0, 3), "00001111");
    }

    private static ClauseBench eightBench() {
        return bench("a b c d e f g h",
                "p: ban x to y if a and b and c and d and e and f and g and h; q: ban x to y if g and not h; "
                        + "r: ban x to y if h and not g unless f; define n as not a and not b and not c and not d and not e"
                        + " and not f and not g and not h");
    }

    private static void eightFacts() {
        ClauseBench x = eightBench();
        for (int which = 0; which < 256; which++) {
            x = which % 64 == 0 ? eightBench() : x;
            T.due("all of eight", x.holds(0, 0, which), which == 255 ? 1 : 0);
            T.due("the seventh", x.holds(0, 1, which), which >> 6 == 1 ? 1 : 0);
            T.due("the eighth", x.holds(0, 2, which), which >> 5 == 4 ? 1 : 0);
            T.due("none of eight", x.holds(0, 3, which), which == 0 ? 1 : 0);
        }
        T.due("no such CASE", x.holds(0, 0, 256), -1);
    }

    private static void outcomeIs(ClauseBench x, int which, int i, int... wants) {
        for (int what = 0; what < wants.length; what++) {
            T.due("outcome " + i + " what " + what, x.outcome(0, which, i, what), wants[what]);
        }
        T.due("another what", x.outcome(0, which, i, 5), -1);
        T.due("another what", x.outcome(0, which, i, -1), -1);
    }

    private static void outcomes() {
        ClauseBench x = bench("a b", "c: ban u to v; d: ban u to w; e: right u to w; f: right z to v; g: right u to w; "
                + "h: duty z to v by 3 days; i: duty u to w by 3 days; j: duty u to v by 365 days; "
                + "k: duty u to v by 5 workdays; l: duty u to v by 5 days; m: duty u to v by 005 days; "
                + "define n as a; o: duty u to v by 0 days if n; p: ban z to v if b over c");
        T.due("in CASE 0", x.outcomes(0, 0), 9);
        outcomeIs(x, 0, 0, 1, 0, 0, 5, 0);
        outcomeIs(x, 0, 1, 1, 0, 0, 5, 1);
        outcomeIs(x, 0, 2, 1, 0, 0, 365, 0);
        outcomeIs(x, 0, 3, 1, 0, 1, 3, 0);
        outcomeIs(x, 0, 4, 1, 1, 0, 3, 0);
        outcomeIs(x, 0, 5, 2, 0, 1, -1, -1);
        outcomeIs(x, 0, 6, 2, 1, 0, -1, -1);
        outcomeIs(x, 0, 7, 3, 0, 0, -1, -1);
        outcomeIs(x, 0, 8, 3, 0, 1, -1, -1);
        T.due("no such OUTCOME", x.outcome(0, 0, 9, 0), -1);
        T.due("no such OUTCOME", x.outcome(0, 0, -1, 0), -1);
        T.due("in CASE 1", x.outcomes(0, 1), 10);
        outcomeIs(x, 1, 0, 1, 0, 0, 0, 0);
        T.due("in CASE 2", x.outcomes(0, 2), 9);
        outcomeIs(x, 2, 7, 3, 0, 1, -1, -1);
        outcomeIs(x, 2, 8, 3, 1, 0, -1, -1);
        T.due("no such CASE", x.outcomes(0, 4), -1);
        T.due("no such CASE", x.outcomes(0, -1), -1);
        T.due("no such VERSION", x.outcomes(1, 0), -1);
        T.due("no such CASE", x.outcome(0, 4, 0, 0), -1);
        T.due("no such VERSION", x.outcome(1, 0, 0, 0), -1);
        Tape.version(x, 1, "p: ban u to v if a and b");
        T.due("none", x.outcomes(1, 0), 0);
        T.due("none", x.outcome(1, 0, 0, 0), -1);
    }

    private static void differs() {
        ClauseBench x = bench("a b c", "p: duty x to y by 5 days if a; q: ban x to z if b and not c",
                "k: ban x to z if b unless c; l: duty x to y by 5 days if a and b; m: duty x to y by 05 days if a and not b",
                "p: duty x to y by 5 workdays if a; q: ban x to z if b and not c",
                "p: duty x to y by 5 days if a; q: ban x to z if b; r: right x to z if c and b and a");
        T.due("the same OUTCOMES", x.differs(0, 1), -1);
        T.due("the same VERSION", x.differs(0, 0), -1);
        T.due("days", x.differs(0, 2), 1);
        T.due("a COND", x.differs(0, 3), 6);
        T.due("the other way", x.differs(3, 1), 6);
        Tape.world(x, "b and a");
        T.due("of the WORLD", x.differs(2, 1), 3);
        T.due("of the WORLD", x.differs(0, 3), 7);
        Tape.world(x, "not c");
        T.due("of the WORLD", x.differs(0, 3), -1);
        T.due("no such VERSION", x.differs(0, 4), -2);
        T.due("no such VERSION", x.differs(-1, 0), -2);
        ClauseBench z = bench("a b", "p: ban x to y; q: ban x to z if b", "p: ban x to y");
        T.due("an OUTCOME more", z.differs(0, 1), 2);
        T.due("an OUTCOME less", z.differs(1, 0), 2);
        ClauseBench y = bench("a", "p: ban x to y");
        T.due("no such VERSION", y.differs(0, 1), -2);
        T.due("no such VERSION", y.differs(1, 0), -2);
    }

    private static void changed() {
        ClauseBench x = bench("a b c", "define late as a and b; p: duty x to y by 5 days if late; q: ban x to z; "
                + "r: right x to y if c and a; s: ban x to z if b; late: ban z to z if c");
        T.due("a RIDER", Tape.rider(x, 0, 1, "replace define late as a or b; strike r; replace s: right z to y if b; "
                + "add t: ban x to y if c and b over q; strike late"), 5);
        T.due("first", x.changed(0, 1, 0, 0), 1);
        T.due("first", x.changed(0, 1, 0, 1), 1);
        T.due("second", x.changed(0, 1, 1, 0), 2);
        T.due("second", x.changed(0, 1, 1, 1), 6);
        T.due("third", x.changed(0, 1, 2, 0), 3);
        T.due("third", x.changed(0, 1, 2, 1), 5);
        T.due("fourth", x.changed(0, 1, 3, 0), 5);
        T.due("fourth", x.changed(0, 1, 3, 1), 4);
        T.due("none more", x.changed(0, 1, 4, 0), -1);
        T.due("ahead of all", x.changed(0, 1, -1, 0), -1);
        T.due("another what", x.changed(0, 1, 0, 2), -1);
        T.due("another what", x.changed(0, 1, 0, -1), -1);
        T.due("of the other", x.changed(1, 0, 2, 0), 4);
        T.due("of the other", x.changed(1, 0, 2, 1), 6);
        T.due("of the other", x.changed(1, 0, 3, 0), -1);
        T.due("the same VERSION", x.changed(0, 0, 0, 0), -1);
        T.due("no such VERSION", x.changed(0, 2, 0, 0), -1);
        T.due("no such VERSION", x.changed(4, 0, 0, 0), -1);
        changedAmongDefines();
        Tape.world(x, "not c");
        T.due("of the WORLD", x.changed(0, 1, 0, 1), 1);
        T.due("of the WORLD", x.changed(0, 1, 1, 0), -1);
    }

    private static void changedAmongDefines() {
        ClauseBench x = bench("a b", "p: ban x to y if a; define n as b; define m as a; q: ban x to y if n",
                "define p as a; p: ban x to y if b; define n as a; q: ban x to y unless n");
        T.due("the first CLAUSE", x.changed(0, 1, 0, 0), 0);
        T.due("the first CLAUSE", x.changed(0, 1, 0, 1), 1);
        T.due("no define between", x.changed(0, 1, 1, 0), 3);
        T.due("no define between", x.changed(0, 1, 1, 1), 0);
        T.due("none more", x.changed(0, 1, 2, 0), -1);
    }

    private static void quarrel() {
        ClauseBench x = bench("a b c", "k: ban x to y if a and b; l: ban x to y if b; m: ban z to y; n: ban x to w; "
                + "o: right x to y; p: duty x to y by 5 days if a and c; q: duty x to y by 3 days if a",
                "p: duty x to y by 5 days if a; q: ban x to y over p; r: ban z to y; s: ban x to w",
                "p: duty x to y by 5 days; q: ban x to y if b");
        T.due("ahead of any", x.quarreling(0), -1);
        T.due("ahead of any", x.quarreling(1), -1);
        T.due("none", x.quarrel(1), -1);
        T.due("ahead of any that told a CASE", x.quarreling(0), -1);
        T.due("the least CASE", x.quarrel(0), 3);
        T.due("the duty", x.quarreling(0), 6);
        T.due("the ban", x.quarreling(1), 0);
        T.due("another what", x.quarreling(2), -1);
        T.due("another what", x.quarreling(-1), -1);
        T.due("none", x.quarrel(1), -1);
        T.due("no such VERSION", x.quarrel(3), -2);
        T.due("no such VERSION", x.quarrel(-1), -2);
        T.due("no such VERSION", x.quarrel(4), -2);
        T.due("the duty stays", x.quarreling(0), 6);
        T.due("the ban stays", x.quarreling(1), 0);
        T.due("another", x.quarrel(2), 2);
        T.due("its duty", x.quarreling(0), 0);
        T.due("its ban", x.quarreling(1), 1);
        Tape.world(x, "c");
        T.due("of the WORLD", x.quarrel(0), 7);
        T.due("the least duty", x.quarreling(0), 5);
        T.due("the least ban", x.quarreling(1), 0);
        Tape.version(x, 0, "k: ban x to y");
        T.due("the duty stays", x.quarreling(0), 5);
        T.due("none", x.quarrel(0), -1);
    }

    private static void gap() {
        ClauseBench x = bench("a b c", "p: duty x to y by 5 days if a or c; q: duty z to y by 3 workdays unless a or b; "
                + "r: ban x to y; s: duty x to w by 1 days; t: right x to v; u: ban x to w if b and c over s");
        T.due("a gap", x.gap(0, 0), 2);
        T.due("a gap of one that another stands over", x.gap(0, 1), 6);
        T.due("of a right alone", x.gap(0, 2), 0);
        T.due("no such ACT", x.gap(0, 3), -2);
        T.due("no such ACT", x.gap(0, -1), -2);
        T.due("no such VERSION", x.gap(1, 0), -2);
        T.due("no such VERSION", x.gap(4, 0), -2);
        Tape.world(x, "a or c");
        T.due("of the WORLD", x.gap(0, 0), -1);
        T.due("of the WORLD", x.gap(0, 2), 1);
        Tape.version(x, 1, "p: duty x to new by 1 days");
        T.due("an ACT of another VERSION", x.gap(0, 3), 1);
        T.due("an ACT of another VERSION", x.gap(1, 1), 1);
        T.due("none", x.gap(1, 3), -1);
    }

    private static void count() {
        ClauseBench x = bench("a b c", "p: duty x to y by 5 days; q: ban z to y; r: ban x to w", "p: ban k to l");
        Tape.world(x, "a");
        Tape.rider(x, 0, 3, "strike p");
        Tape.put(x, "abc");
        x.write(1);
        x.free(9, true);
        x.free(5, true);
        int[] wants = {3, 3, 3, 4, 1, 3, 13, 2, -1, -1, 3, 1, -1, 2, -1};
        for (int what = 0; what < wants.length; what++) {
            T.due("count " + what, x.count(what), wants[what]);
        }
        T.due("count -1", x.count(-1), -1);
        T.due("count far", x.count(Integer.MAX_VALUE), -1);
        T.due("count far", x.count(Integer.MIN_VALUE), -1);
    }
}
