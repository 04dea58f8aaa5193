/** Promises 12 to 24, sentence by sentence: what is told of VERSIONS, CASES, DAYS and the object. */
public final class AnswerSentencesTest {
    private static final Sentences S = new Sentences("Promise 12", "Promise 13", "Promise 14", "Promise 15",
            "Promise 16", "Promise 17", "Promise 18", "Promise 19", "Promise 20", "Promise 21", "Promise 22",
            "Promise 23", "Promise 24");
    private static final int[] FAR = {-1, 4, 5, 14, Integer.MIN_VALUE, Integer.MAX_VALUE};
    private static final int[] BELOW_OR_FAR = {-1, -2, 1000, Integer.MIN_VALUE, Integer.MAX_VALUE};

    public static void main(String[] args) {
        clause();
        clauseNone();
        letter();
        holds();
        outcomes();
        outcome();
        differs();
        changed();
        changedBounds();
        quarrel();
        quarreling();
        gap();
        free();
        due();
        count();
        countNone();
        S.close("AnswerSentencesTest");
    }

    private static ClauseBench bench(String... versions) {
        ClauseBench x = new ClauseBench();
        Tape.facts(x, "a b c");
        for (int v = 0; v < versions.length; v++) {
            Tape.version(x, v, versions[v]);
        }
        return x;
    }

    private static void clause() {
        ClauseBench x = bench("define late as a; p: duty ua to va by 365 workdays; q: duty ub to vb by 0 days; "
                + "abcdefghijkl: right uc to vc; s: ban uc to vb over p; t: ban ua to va over p and q and p and s");
        S.of("Promise 12", "Of CLAUSE k of a VERSION what 0: 0 define, 1 duty, 2 right, 3 ban;");
        int[] kinds = {0, 1, 1, 2, 3, 3};
        int[] parties = {-1, 0, 1, 2, 2, 0};
        int[] acts = {-1, 0, 1, 2, 1, 0};
        for (int k = 0; k < 6; k++) {
            S.due("kind of " + k, x.clause(0, k, 0), kinds[k]);
        }
        S.of("Promise 12", "1: PARTY, 2: ACT,");
        for (int k = 0; k < 6; k++) {
            S.due("PARTY of " + k, x.clause(0, k, 1), parties[k]);
            S.due("ACT of " + k, x.clause(0, k, 2), acts[k]);
        }
        S.of("Promise 12", "3: NUMBER,");
        S.due("the greatest", x.clause(0, 1, 3), 365);
        S.due("the least", x.clause(0, 2, 3), 0);
        S.of("Promise 12", "4: 1 of workdays, 0 of days");
        S.due("workdays", x.clause(0, 1, 4), 1);
        S.due("days", x.clause(0, 2, 4), 0);
        S.of("Promise 12", "(NONE where there is none of these);");
        for (int what = 1; what <= 4; what++) {
            S.due("of a define " + what, x.clause(0, 0, what), -1);
        }
        for (int k = 3; k < 6; k++) {
            S.due("NUMBER of a right or ban", x.clause(0, k, 3), -1);
            S.due("DAYS of a right or ban", x.clause(0, k, 4), -1);
        }
        S.of("Promise 12", "5: how many CLAUSES it stands over (each once; 0 of a define),");
        int[] overs = {0, 0, 0, 0, 1, 3};
        for (int k = 0; k < 6; k++) {
            S.due("over of " + k, x.clause(0, k, 5), overs[k]);
        }
        StringBuilder text = new StringBuilder("pa: ban x to y");
        StringBuilder all = new StringBuilder("pa");
        for (char k = 'b'; k < 'x'; k++) {
            text.append("; p").append(k).append(": ban x to y");
            all.append(" and p").append(k);
        }
        ClauseBench y = bench(text + "; px: ban x to y over " + all + " and " + all);
        S.due("over 23", y.clause(0, 23, 5), 23);
        S.of("Promise 12", "6: letters of its LABEL or NAME.");
        int[] letters = {4, 1, 1, 12, 1, 1};
        for (int k = 0; k < 6; k++) {
            S.due("letters of " + k, x.clause(0, k, 6), letters[k]);
        }
    }

    private static void clauseNone() {
        S.of("Promise 12", "NONE without it, or for another what.");
        ClauseBench x = bench("p: duty x to y by 5 days", "q: ban x to y; r: ban x to y");
        for (int what = -3; what < 10; what++) {
            boolean known = what >= 0 && what <= 6;
            S.due("what " + what, x.clause(0, 0, what) != -1, known);
            S.due("CLAUSE 1, what " + what, x.clause(0, 1, what), -1);
            S.due("CLAUSE -1, what " + what, x.clause(0, -1, what), -1);
            S.due("no VERSION 2, what " + what, x.clause(2, 0, what), -1);
            for (int v : FAR) {
                S.due("VERSION " + v, x.clause(v, 0, what), -1);
            }
        }
        S.due("the last CLAUSE", x.clause(1, 1, 0), 3);
        S.due("behind the last CLAUSE", x.clause(1, 2, 0), -1);
        for (int odd : BELOW_OR_FAR) {
            S.due("CLAUSE " + odd, x.clause(0, odd, 0), -1);
            S.due("what " + odd, x.clause(0, 0, odd), -1);
        }
    }

    private static void letter() {
        ClauseBench x = bench("define late as a; zyxwvutsrqpo: ban x to y; p: ban x to y");
        String[] names = {"late", "zyxwvutsrqpo", "p"};
        S.of("Promise 13", "Letter i of the LABEL or NAME of CLAUSE k;");
        for (int k = 0; k < names.length; k++) {
            for (int i = 0; i < names[k].length(); i++) {
                S.due("letter " + i + " of " + k, x.letter(0, k, i), names[k].charAt(i));
            }
        }
        S.of("Promise 13", "NONE.");
        for (int k = 0; k < names.length; k++) {
            S.due("behind the last letter", x.letter(0, k, names[k].length()), -1);
            for (int i : BELOW_OR_FAR) {
                S.due("letter " + i, x.letter(0, k, i), -1);
            }
        }
        for (int odd : BELOW_OR_FAR) {
            S.due("CLAUSE " + odd, x.letter(0, odd, 0), -1);
        }
        S.due("behind the last CLAUSE", x.letter(0, 3, 0), -1);
        S.due("no VERSION 1", x.letter(1, 0, 0), -1);
        for (int v : FAR) {
            S.due("VERSION " + v, x.letter(v, 0, 0), -1);
        }
    }

    private static void holds() {
        ClauseBench x = bench("p: ban x to y if a; define n as not a; q: right x to y if b over p; r: ban x to y");
        S.of("Promise 14", "Whether CLAUSE k of a VERSION HOLDS in a CASE");
        Tape.world(x, "c");
        for (int which = 0; which < 8; which++) {
            int a = which & 1;
            int b = which >> 1 & 1;
            S.due("MET, and under one that is MET", x.holds(0, 0, which), a * (1 - b));
            S.due("over another", x.holds(0, 2, which), b);
        }
        S.of("Promise 14", "(of a define: its COND is so):");
        for (int which = 0; which < 8; which++) {
            S.due("a define", x.holds(0, 1, which), 1 - (which & 1));
        }
        S.of("Promise 14", "1, 0; NONE without such.");
        S.due("the first CASE", x.holds(0, 0, 0), 0);
        S.due("the last CASE", x.holds(0, 2, 7), 1);
        S.due("behind the last CASE", x.holds(0, 3, 8), -1);
        S.due("the last CLAUSE", x.holds(0, 3, 0), 1);
        S.due("behind the last CLAUSE", x.holds(0, 4, 0), -1);
        for (int odd : BELOW_OR_FAR) {
            S.due("CASE " + odd, x.holds(0, 3, odd), -1);
            S.due("CLAUSE " + odd, x.holds(0, odd, 0), -1);
        }
        S.due("no VERSION 1", x.holds(1, 0, 0), -1);
        for (int v : FAR) {
            S.due("VERSION " + v, x.holds(v, 0, 0), -1);
        }
        ClauseBench y = new ClauseBench();
        S.due("without FACTS", y.holds(0, 0, 0), -1);
        Tape.facts(y, "a b c d e f g h");
        Tape.version(y, 0, "p: ban x to y if a and b and c and d and e and f and g and h");
        S.due("CASE 255 of 8 FACTS", y.holds(0, 0, 255), 1);
        S.due("CASE 127", y.holds(0, 0, 127), 0);
        S.due("CASE 256", y.holds(0, 0, 256), -1);
    }

    private static void outcomes() {
        ClauseBench x = bench("p: ban x to y if a; q: duty x to y by 5 days if b; r: ban x to y if c; define n as a");
        S.of("Promise 15", "OUTCOMES of a CASE: how many;");
        int[] wants = {0, 1, 1, 2, 1, 1, 2, 2};
        for (int which = 0; which < 8; which++) {
            S.due("CASE " + which, x.outcomes(0, which), wants[which]);
        }
        Tape.world(x, "a and not a");
        S.due("also beyond the WORLD", x.outcomes(0, 7), 2);
        S.of("Promise 15", "NONE without such.");
        S.due("behind the last CASE", x.outcomes(0, 8), -1);
        for (int which : BELOW_OR_FAR) {
            S.due("CASE " + which, x.outcomes(0, which), -1);
        }
        S.due("no VERSION 1", x.outcomes(1, 0), -1);
        for (int v : FAR) {
            S.due("VERSION " + v, x.outcomes(v, 0), -1);
        }
        S.due("without FACTS", new ClauseBench().outcomes(0, 0), -1);
    }

    private static void outcome() {
        ClauseBench x = bench("p: ban ua to va; q: right ub to vb; r: duty uc to vc by 365 workdays; "
                + "s: duty uc to vc by 0 days; t: ban ub to va if a");
        int[][] wants = {{1, 2, 2, 0, 0}, {1, 2, 2, 365, 1}, {2, 1, 1, -1, -1}, {3, 0, 0, -1, -1}};
        S.of("Promise 16", "Of OUTCOME i of it what 0: 1 duty, 2 right, 3 ban,");
        for (int i = 0; i < 4; i++) {
            S.due("kind of " + i, x.outcome(0, 0, i, 0), wants[i][0]);
        }
        S.of("Promise 16", "1: PARTY, 2: ACT,");
        for (int i = 0; i < 4; i++) {
            S.due("PARTY of " + i, x.outcome(0, 0, i, 1), wants[i][1]);
            S.due("ACT of " + i, x.outcome(0, 0, i, 2), wants[i][2]);
        }
        S.of("Promise 16", "3: NUMBER, 4: 1 of workdays");
        for (int i = 0; i < 2; i++) {
            S.due("NUMBER of " + i, x.outcome(0, 0, i, 3), wants[i][3]);
            S.due("DAYS of " + i, x.outcome(0, 0, i, 4), wants[i][4]);
        }
        S.of("Promise 16", "(NONE where there is none).");
        for (int i = 2; i < 4; i++) {
            S.due("NUMBER of " + i, x.outcome(0, 0, i, 3), -1);
            S.due("DAYS of " + i, x.outcome(0, 0, i, 4), -1);
        }
        S.of("Promise 16", "NONE without it, or for another what.");
        S.due("the last of CASE 1", x.outcome(0, 1, 4, 1), 1);
        for (int what = -2; what < 8; what++) {
            S.due("what " + what, x.outcome(0, 0, 0, what) != -1, what >= 0 && what <= 4);
            S.due("behind the last", x.outcome(0, 0, 4, what), -1);
            S.due("ahead of the first", x.outcome(0, 0, -1, what), -1);
            S.due("behind the last CASE", x.outcome(0, 8, 0, what), -1);
            S.due("no VERSION 1", x.outcome(1, 0, 0, what), -1);
        }
        for (int odd : BELOW_OR_FAR) {
            S.due("OUTCOME " + odd, x.outcome(0, 0, odd, 0), -1);
            S.due("CASE " + odd, x.outcome(0, odd, 0, 0), -1);
            S.due("what " + odd, x.outcome(0, 0, 0, odd), -1);
        }
        for (int v : FAR) {
            S.due("VERSION " + v, x.outcome(v, 0, 0, 0), -1);
        }
        Tape.version(x, 1, "p: ban ua to va if a");
        S.due("a CASE without OUTCOMES", x.outcome(1, 0, 0, 0), -1);
    }

    private static void differs() {
        ClauseBench x = bench("p: duty x to y by 5 days if a; q: ban x to z if b and c",
                "k: ban x to z if c unless not b; l: duty x to y by 5 days if a and b; m: duty x to y by 005 days if a",
                "p: duty x to y by 5 workdays if a and b; q: ban x to z if b and c; r: duty x to y by 5 days if a");
        S.of("Promise 17", "The least CASE of the WORLD in which two VERSIONS have unlike OUTCOMES;");
        S.due("one more", x.differs(0, 2), 3);
        S.due("one less", x.differs(2, 0), 3);
        Tape.world(x, "c");
        S.due("of the WORLD", x.differs(0, 2), 7);
        S.due("of the WORLD", x.differs(2, 1), 7);
        Tape.version(x, 3, "p: ban y to z");
        S.due("the first CASE of the WORLD", x.differs(3, 0), 4);
        Tape.world(x, "");
        S.due("CASE 0", x.differs(0, 3), 0);
        S.of("Promise 17", "-1: none has;");
        S.due("the same OUTCOMES of other CLAUSES", x.differs(0, 1), -1);
        S.due("the same VERSION", x.differs(2, 2), -1);
        Tape.world(x, "not b");
        S.due("beyond the WORLD alone", x.differs(0, 2), -1);
        Tape.world(x, "b and not b");
        S.due("no CASE", x.differs(0, 3), -1);
        S.of("Promise 17", "-2 without these VERSIONS.");
        ClauseBench y = bench("p: ban x to y");
        S.due("without w", y.differs(0, 1), -2);
        S.due("without v", y.differs(1, 0), -2);
        S.due("without both", y.differs(1, 1), -2);
        for (int v : FAR) {
            S.due("VERSION " + v, y.differs(v, 0), -2);
            S.due("VERSION " + v, y.differs(0, v), -2);
            S.due("VERSION " + v, y.differs(v, v), -2);
        }
    }

    private static void changedIs(ClauseBench x, int v, int w, int... wants) {
        for (int k = 0; 2 * k < wants.length; k++) {
            S.due("number of the " + k + "-th", x.changed(v, w, k, 0), wants[2 * k]);
            S.due("CASE of the " + k + "-th", x.changed(v, w, k, 1), wants[2 * k + 1]);
        }
        S.due("no more", x.changed(v, w, wants.length / 2, 0), -1);
        S.due("no more", x.changed(v, w, wants.length / 2, 1), -1);
    }

    private static void changed() {
        ClauseBench x = bench("define late as a; p: ban x to y if late; q: ban x to y if b; r: right x to y if c; "
                + "define soon as c; s: duty x to y by 5 days if soon; k: ban x to y if a and b and c",
                "define late as b; s: duty x to y by 7 workdays if c; p: ban x to y if late; q: right z to w if b; "
                        + "t: ban x to y if a over q; define r as c");
        S.of("Promise 18", "The k-th CLAUSE of VERSION v (not define; by numbers) that HOLDS in some CASE of the WORLD "
                + "just in one of the VERSIONS");
        changedIs(x, 0, 1, 1, 1, 2, 3, 3, 4, 6, 7);
        changedIs(x, 1, 0, 2, 1, 3, 3, 4, 1);
        changedIs(x, 0, 0);
        S.of("Promise 18", "(of w the CLAUSE with its LABEL; without one it never HOLDS there),");
        S.due("another NUMBER and PARTY, but HOLDS as there", x.changed(1, 0, 0, 0), 2);
        changedIs(bench("p: ban x to y if b", "q: ban x to y if b"), 0, 1, 0, 2);
        changedIs(bench("p: ban x to y if b and not b", "q: ban x to y"), 0, 1);
        changedIs(bench("p: ban x to y if a", "define p as a; q: ban x to y"), 0, 1, 0, 1);
        changedIs(bench("p: ban x to y if a", "define p as b; p: duty z to w by 5 days if a"), 0, 1);
        changedIs(bench("define p as a", "p: ban x to y"), 0, 1);
        S.of("Promise 18", "what 0: its number, 1: the least such CASE;");
        ClauseBench y = bench("n: ban x to y; p: ban x to y if a or b", "n: ban x to y; p: ban x to y if a or c");
        changedIs(y, 0, 1, 1, 2);
        Tape.world(y, "c");
        changedIs(y, 0, 1, 1, 4);
        Tape.world(y, "c and b");
        changedIs(y, 0, 1);
        Tape.world(y, "c and b or not c and not b");
        changedIs(y, 0, 1);
    }

    private static void changedBounds() {
        S.of("Promise 18", "NONE without.");
        ClauseBench x = bench("p: ban x to y", "q: ban x to y");
        S.due("the first", x.changed(0, 1, 0, 0), 0);
        for (int odd : BELOW_OR_FAR) {
            S.due(odd + "-th", x.changed(0, 1, odd, 0), -1);
            S.due("what " + odd, x.changed(0, 1, 0, odd), -1);
        }
        S.due("what 2", x.changed(0, 1, 0, 2), -1);
        S.due("without w", x.changed(0, 2, 0, 0), -1);
        S.due("without v", x.changed(2, 0, 0, 0), -1);
        for (int v : FAR) {
            S.due("VERSION " + v, x.changed(v, 0, 0, 0), -1);
            S.due("VERSION " + v, x.changed(0, v, 0, 0), -1);
        }
        StringBuilder text = new StringBuilder("pa: ban x to y");
        for (char k = 'b'; k <= 'x'; k++) {
            text.append("; p").append(k).append(": ban x to y");
        }
        Tape.version(x, 2, text.toString());
        S.due("the last of 24", x.changed(2, 0, 23, 0), 23);
        S.due("behind the last of 24", x.changed(2, 0, 24, 0), -1);
    }

    private static void quarrel() {
        ClauseBench x = bench("p: duty x to y by 5 days if a; q: ban x to y if b; r: duty x to y by 7 days if b and c",
                "p: duty x to y by 5 days; q: ban x to y", "p: duty x to y by 5 days if a; q: ban x to y over p");
        S.of("Promise 19", "The least CASE of the WORLD with a QUARREL;");
        S.due("the least CASE", x.quarrel(0), 3);
        S.due("CASE 0", x.quarrel(1), 0);
        Tape.world(x, "c");
        S.due("of the WORLD", x.quarrel(0), 6);
        S.due("of the WORLD", x.quarrel(1), 4);
        Tape.world(x, "a and c");
        S.due("of the WORLD", x.quarrel(0), 7);
        S.of("Promise 19", "-1: none;");
        S.due("none", x.quarrel(2), -1);
        Tape.world(x, "not b");
        S.due("none in the WORLD", x.quarrel(0), -1);
        Tape.world(x, "b and not b");
        S.due("no CASE", x.quarrel(1), -1);
        S.of("Promise 19", "-2 without such a VERSION.");
        S.due("no VERSION 3", x.quarrel(3), -2);
        for (int v : FAR) {
            S.due("VERSION " + v, x.quarrel(v), -2);
        }
        S.of("Promise 19", "quarreling() tells whose.");
        Tape.world(x, "");
        S.due("the least CASE", x.quarrel(0), 3);
        S.due("the duty", x.quarreling(0), 0);
        S.due("the ban", x.quarreling(1), 1);
    }

    private static void quarreling() {
        ClauseBench x = bench("k: ban x to z; l: ban x to y if a; m: ban x to y if b; n: duty x to y by 1 days if c and b; "
                + "o: duty z to y by 3 days; p: duty x to y by 2 days if c; define q as a; r: ban z to y if a and b and c",
                "p: duty x to y by 5 days if a; q: ban x to y unless a",
                "k: ban z to y if a; l: ban x to y; m: duty z to y by 1 days; n: duty x to y by 1 days if a");
        S.of("Promise 20", "NONE ahead of any, or for another what.");
        S.due("ahead of any", x.quarreling(0), -1);
        S.due("ahead of any", x.quarreling(1), -1);
        S.due("none", x.quarrel(1), -1);
        S.due("no VERSION 3", x.quarrel(3), -2);
        S.due("ahead of any that told a CASE", x.quarreling(0), -1);
        S.due("ahead of any that told a CASE", x.quarreling(1), -1);
        S.due("one", x.quarrel(0), 5);
        for (int odd : BELOW_OR_FAR) {
            S.due("what " + odd, x.quarreling(odd), -1);
        }
        S.due("what 2", x.quarreling(2), -1);
        S.of("Promise 20", "Of the latest quarrel() that told a CASE, what 0: the duty, 1: the ban");
        S.due("the duty", x.quarreling(0), 5);
        S.due("the ban", x.quarreling(1), 1);
        S.due("none", x.quarrel(1), -1);
        S.due("no VERSION", x.quarrel(3), -2);
        S.due("the duty stays", x.quarreling(0), 5);
        S.due("the ban stays", x.quarreling(1), 1);
        S.due("another", x.quarrel(2), 1);
        S.due("its duty", x.quarreling(0), 2);
        S.due("its ban", x.quarreling(1), 0);
        Tape.version(x, 2, "p: ban x to y");
        S.due("the duty stays when its VERSION goes", x.quarreling(0), 2);
        S.of("Promise 20", "(CLAUSES' numbers; the least duty, then the least ban);");
        Tape.world(x, "b");
        S.due("of the WORLD", x.quarrel(0), 6);
        S.due("of two duties the least", x.quarreling(0), 3);
        S.due("the ban", x.quarreling(1), 2);
        Tape.world(x, "a and b");
        S.due("of the WORLD", x.quarrel(0), 7);
        S.due("of three duties the least", x.quarreling(0), 3);
        S.due("of two bans the least", x.quarreling(1), 1);
        Tape.version(x, 3, "o: ban x to y; p: ban z to y; q: duty z to y by 1 days; r: duty x to y by 1 days");
        S.due("of the WORLD", x.quarrel(3), 3);
        S.due("the least duty ahead of the least ban", x.quarreling(0), 2);
        S.due("its ban", x.quarreling(1), 1);
    }

    private static void gap() {
        ClauseBench x = bench("p: duty x to y by 5 days if a or b; q: duty z to y by 3 days if c; r: ban x to w",
                "p: duty x to y by 5 days; q: duty x to w by 5 days if a and b and c");
        S.of("Promise 21", "The least CASE of the WORLD with a GAP for an ACT;");
        S.due("CASE 0", x.gap(0, 0), 0);
        S.due("of another ACT", x.gap(0, 1), 0);
        S.due("of another VERSION", x.gap(1, 1), 0);
        Tape.world(x, "a and b");
        S.due("of the WORLD", x.gap(1, 1), 3);
        Tape.version(x, 2, "p: duty x to new by 5 days if a");
        S.due("an ACT of another VERSION alone", x.gap(0, 2), 3);
        Tape.world(x, "b");
        S.due("of the WORLD", x.gap(2, 2), 2);
        S.of("Promise 21", "-1: none;");
        S.due("none in the WORLD", x.gap(0, 0), -1);
        Tape.world(x, "");
        S.due("none at all", x.gap(1, 0), -1);
        Tape.world(x, "a and not a");
        S.due("no CASE", x.gap(0, 1), -1);
        S.of("Promise 21", "-2 without such a VERSION or ACT.");
        S.due("behind the last ACT", x.gap(0, 3), -2);
        for (int odd : BELOW_OR_FAR) {
            S.due("ACT " + odd, x.gap(0, odd), -2);
        }
        S.due("no VERSION 3", x.gap(3, 0), -2);
        for (int v : FAR) {
            S.due("VERSION " + v, x.gap(v, 0), -2);
        }
        String acts = "p: ban x to ua; q: ban x to ub; r: ban x to uc; s: ban x to ud; t: ban x to ue; u: ban x to uf; "
                + "k: ban x to ug; l: ban x to uh; m: ban x to ui; n: duty x to uj by 5 days if a; o: ban x to uk; "
                + "v: duty x to ul by 5 days if not a";
        ClauseBench y = bench(acts);
        S.due("ACT 11", y.gap(0, 11), 1);
        S.due("ACT 12", y.gap(0, 12), -2);
    }

    private static void free() {
        S.of("Promise 22", "A DAY is FREE, or no more: whether that changed anything.");
        ClauseBench x = new ClauseBench();
        int told = 0;
        for (int day : new int[] {0, 1, 5, 6, 7, 31, 32, 63, 64, 127, 128, 4999, 9984, 9998, 9999}) {
            S.due("not FREE " + day, x.free(day, false), false);
            S.due("FREE " + day, x.free(day, true), true);
            S.due("FREE already " + day, x.free(day, true), false);
            S.due("no more " + day, x.free(day, false), true);
            S.due("no more already " + day, x.free(day, false), false);
            S.due("FREE again " + day, x.free(day, true), true);
            told++;
            S.due("FREE days", x.count(7), told);
        }
        S.due("a DAY beside", x.free(62, false), false);
        S.due("a DAY beside", x.free(65, false), false);
        S.of("Promise 22", "False without it.");
        for (int day : new int[] {-1, -64, 10000, 10047, 10048, 65536, Integer.MIN_VALUE, Integer.MAX_VALUE}) {
            S.due("DAY " + day, x.free(day, true), false);
            S.due("DAY " + day, x.free(day, false), false);
        }
        S.due("FREE days", x.count(7), told);
    }

    private static void due() {
        ClauseBench x = bench("p: duty x to y by 0 days; q: duty x to y by 0 workdays; r: duty x to y by 1 days; "
                + "s: duty x to y by 1 workdays; t: duty x to y by 365 days; u: duty x to y by 365 workdays; "
                + "v: right x to y; w: ban x to y; k: duty x to y by 3 days if a");
        S.of("Promise 23", "The DAY by which a duty of a CASE (OUTCOME i, told from a DAY on) is to be done;");
        int[] wants = {4, 4, 5, 7, 369, 4 + 73 * 7};
        for (int i = 0; i < wants.length; i++) {
            S.due("OUTCOME " + i, x.due(0, 0, i, 4), wants[i]);
        }
        S.due("of another CASE", x.due(0, 1, 4, 4), 7);
        x.free(7, true);
        S.due("over a FREE day", x.due(0, 0, 3, 4), 8);
        S.due("from DAY 0", x.due(0, 0, 3, 0), 1);
        S.of("Promise 23", "NONE: no such OUTCOME or DAY,");
        S.due("behind the last OUTCOME", x.due(0, 0, 8, 4), -1);
        S.due("DAY 10000", x.due(0, 0, 0, 10000), -1);
        for (int odd : new int[] {-1, -2, 10001, Integer.MIN_VALUE, Integer.MAX_VALUE}) {
            S.due("OUTCOME " + odd, x.due(0, 0, odd, 4), -1);
            S.due("CASE " + odd, x.due(0, odd, 0, 4), -1);
            for (int i = 0; i < 6; i++) {
                S.due("DAY " + odd, x.due(0, 0, i, odd), -1);
            }
        }
        S.due("behind the last CASE", x.due(0, 8, 0, 4), -1);
        S.due("no VERSION 1", x.due(1, 0, 0, 4), -1);
        for (int v : FAR) {
            S.due("VERSION " + v, x.due(v, 0, 0, 4), -1);
        }
        S.of("Promise 23", "no duty, or beyond 9999.");
        S.due("a right", x.due(0, 0, 6, 4), -1);
        S.due("a ban", x.due(0, 0, 7, 4), -1);
        S.due("the last DAY itself", x.due(0, 0, 0, 9999), 9999);
        S.due("the last DAY itself", x.due(0, 0, 1, 9999), 9999);
        S.due("to the last DAY", x.due(0, 0, 2, 9998), 9999);
        S.due("to the last DAY", x.due(0, 0, 3, 9998), 9999);
        S.due("behind it", x.due(0, 0, 2, 9999), -1);
        S.due("behind it", x.due(0, 0, 3, 9999), -1);
        S.due("to the last DAY", x.due(0, 0, 4, 9634), 9999);
        S.due("behind it", x.due(0, 0, 4, 9635), -1);
        S.due("to the last DAY", x.due(0, 0, 5, 9999 - 511), 9999);
        S.due("behind it", x.due(0, 0, 5, 9999 - 510), -1);
        x.free(9999, true);
        S.due("days go to a FREE day", x.due(0, 0, 2, 9998), 9999);
        S.due("workdays behind it", x.due(0, 0, 3, 9998), -1);
    }

    private static void count() {
        ClauseBench x = new ClauseBench();
        S.of("Promise 24", "What 0: FACTS,");
        S.due("none", x.count(0), 0);
        Tape.facts(x, "a b c a");
        S.due("none of a text that is refused", x.count(0), 0);
        Tape.facts(x, "a b c");
        S.due("three", x.count(0), 3);
        S.of("Promise 24", "1: PARTIES, 2: ACTS,");
        S.due("none", x.count(1), 0);
        S.due("none", x.count(2), 0);
        Tape.version(x, 0, "p: ban x to y; q: ban z to y; r: right x to y");
        S.due("two", x.count(1), 2);
        S.due("one", x.count(2), 1);
        Tape.version(x, 0, "p: ban v to w");
        S.due("they stay", x.count(1), 3);
        S.due("they stay", x.count(2), 2);
        S.of("Promise 24", "3: CASES of the WORLD (0 without FACTS),");
        S.due("without FACTS", new ClauseBench().count(3), 0);
        S.due("all", x.count(3), 8);
        Tape.world(x, "a and b");
        S.due("some", x.count(3), 2);
        Tape.world(x, "a and not a");
        S.due("none", x.count(3), 0);
        S.of("Promise 24", "4: RIDERS put on that are not taken off or forgotten,");
        S.due("none", x.count(4), 0);
        Tape.rider(x, 0, 1, "add s: ban x to y");
        Tape.rider(x, 0, 2, "add s: ban x to y");
        Tape.rider(x, 0, 2, "add s: ban x to y");
        Tape.rider(x, 0, 2, "strike z");
        S.due("three", x.count(4), 3);
        x.takeOff();
        S.due("one is taken off", x.count(4), 2);
        Tape.version(x, 2, "p: ban x to y");
        S.due("not forgotten yet", x.count(4), 2);
        x.takeOff();
        S.due("one is forgotten", x.count(4), 1);
        x.takeOff();
        x.takeOff();
        S.due("none", x.count(4), 0);
    }

    private static void countNone() {
        ClauseBench x = bench("p: ban x to y", "p: ban x to y; q: ban x to y");
        S.of("Promise 24", "5: bytes of the TAPE, 6: of OUT,");
        S.due("an empty TAPE", x.count(5), 0);
        S.due("an empty OUT", x.count(6), 0);
        x.feed(0, 0, 0, 0, 0);
        S.due("twenty bytes", x.count(5), 20);
        x.write(1);
        S.due("OUT", x.count(6), 28);
        S.due("the TAPE", x.count(5), 20);
        x.back();
        S.due("the TAPE", x.count(5), 48);
        S.due("OUT", x.count(6), 0);
        S.of("Promise 24", "7: FREE days;");
        x.free(5, true);
        x.free(9, true);
        x.free(9, true);
        x.free(-1, true);
        S.due("two", x.count(7), 2);
        x.free(5, false);
        S.due("one", x.count(7), 1);
        S.of("Promise 24", "10 + v: CLAUSES of VERSION v (NONE without it).");
        int[] clauses = {1, 2, -1, -1};
        for (int v = 0; v < 4; v++) {
            S.due("VERSION " + v, x.count(10 + v), clauses[v]);
        }
        S.of("Promise 24", "NONE for others.");
        for (int what : new int[] {-1, -2, 8, 9, 14, 15, 100, Integer.MIN_VALUE, Integer.MIN_VALUE + 10,
            Integer.MAX_VALUE}) {
            S.due("count " + what, x.count(what), -1);
        }
    }
}
