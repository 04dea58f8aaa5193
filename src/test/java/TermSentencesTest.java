/** Terms, II. MEANING, III. RIDERS, IV. CALENDAR and the constants, sentence by sentence. */
public final class TermSentencesTest {
    private static final Sentences S = new Sentences("II", "III", "IV", "The constants");
    private static final String BASE =
            "define late as a and b; p: duty x to y by 5 days if late; r: right x to z; s: ban x to y over p";

    public static void main(String[] args) {
        met();
        overs();
        outcomes();
        order();
        world();
        quarrels();
        gaps();
        changes();
        strike();
        replace();
        add();
        riderFaults();
        askedAsRead();
        askedOfTheWhole();
        tooLong();
        written();
        calendar();
        by();
        S.of("The constants", "NONE = -1: None.");
        S.due("NONE", ClauseBench.NONE, -1);
        S.close("TermSentencesTest");
    }

    private static ClauseBench bench(String... versions) {
        ClauseBench x = new ClauseBench();
        Tape.facts(x, "a b c");
        for (int v = 0; v < versions.length; v++) {
            S.due(versions[v], Tape.version(x, v, versions[v]), versions[v].split(";").length);
        }
        return x;
    }

    /** In which CASES a CLAUSE of VERSION 0 HOLDS, as 0s and 1s from CASE 0 on. */
    private static String table(ClauseBench x, int k) {
        StringBuilder table = new StringBuilder();
        for (int which = 0; which < 1 << x.count(0); which++) {
            table.append(x.holds(0, k, which));
        }
        return table.toString();
    }

    /** OUTCOMES of a CASE of VERSION 0, their numbers one behind the other. */
    private static String told(ClauseBench x, int which) {
        StringBuilder text = new StringBuilder();
        for (int i = 0; i < x.outcomes(0, which); i++) {
            text.append(i > 0 ? ", " : "");
            int most = x.outcome(0, which, i, 0) == 1 ? 4 : 2;
            for (int what = 0; what <= most; what++) {
                text.append(what > 0 ? " " : "").append(x.outcome(0, which, i, what));
            }
        }
        return text.toString();
    }

    private static void met() {
        S.of("II", "MEANING. In a CASE a NAME is what its COND is.");
        ClauseBench x = bench("define n as a and not b; define m as n or c; p: ban x to y if m; "
                + "define o as not m; q: ban x to y if o");
        S.due("a NAME", table(x, 0), "01000100");
        S.due("a NAME of a NAME", table(x, 1), "01001111");
        S.due("a CLAUSE by a NAME", table(x, 2), "01001111");
        S.due("a NAME of a NAME of a NAME", table(x, 3), "10110000");
        S.due("a CLAUSE by it", table(x, 4), "10110000");
        ClauseBench z = bench("define n as a; define m as b; p: ban x to y if n; q: ban x to y if m unless n");
        S.due("not the latest NAME", table(z, 2), "01010101");
        S.due("two NAMES", table(z, 3), "00100010");
        S.of("II", "A CLAUSE (not define) is MET if its if is so (or there is none) and its unless is not.");
        ClauseBench y = bench("p: ban x to y; q: duty x to y by 5 days if a; r: right x to y unless b; "
                + "s: ban x to y if a unless b; t: ban x to y if a unless a; u: ban x to y if a or c unless b and c");
        S.due("neither", table(y, 0), "11111111");
        S.due("if", table(y, 1), "01010101");
        S.due("unless", table(y, 2), "11001100");
        S.due("both", table(y, 3), "01000100");
        S.due("never", table(y, 4), "00000000");
        S.due("both of two", table(y, 5), "01011100");
    }

    private static void overs() {
        S.of("II", "It HOLDS if it is MET and no CLAUSE that HOLDS stands over it (those that do come behind it).");
        ClauseBench x = bench("p: duty x to y by 1 days; q: ban z to w if a over p; r: right x to y if b over q; "
                + "s: ban x to y if c over r and p");
        S.due("under two, one of them under another", table(x, 0), "10110000");
        S.due("under one that is under another", table(x, 1), "01000101");
        S.due("under one", table(x, 2), "00110000");
        S.due("under none", table(x, 3), "00001111");
        StringBuilder chain = new StringBuilder("pa: ban x to y");
        for (char k = 'b'; k <= 'x'; k++) {
            chain.append("; p").append(k).append(": ban x to y over p").append((char) (k - 1));
        }
        ClauseBench y = bench(chain.toString());
        for (int k = 0; k < 24; k++) {
            S.due("the last of 24 HOLDS, and each second ahead of it: " + k, y.holds(0, k, 5), k % 2);
        }
        ClauseBench z = bench("p: ban x to y if a; q: ban x to y if b over p; r: ban x to y if c over p");
        S.due("one that is not MET is not there", table(z, 0), "01000000");
        ClauseBench u = bench("define p as a; p: ban x to y if p; q: ban x to y over p");
        S.due("a define of that NAME is not under it", table(u, 0), "01010101");
        S.due("the CLAUSE is", table(u, 1), "00000000");
    }

    private static void outcomes() {
        S.of("II", "OUTCOMES of a CASE: of CLAUSES that HOLD, each once:");
        ClauseBench x = bench("p: ban x to y if a; q: ban x to y if b; r: ban x to z if c; s: right x to z if c over p; "
                + "define n as a");
        S.due("none", told(x, 0), "");
        S.due("one", told(x, 1), "3 0 0");
        S.due("two alike", told(x, 3), "3 0 0");
        S.due("one is under another", told(x, 5), "2 0 1, 3 0 1");
        S.due("how many", x.outcomes(0, 5), 2);
        StringBuilder alike = new StringBuilder("pa: duty x to y by 7 days");
        StringBuilder unlike = new StringBuilder("pa: duty x to y by 0 days");
        for (int k = 1; k < 24; k++) {
            String label = "; p" + (char) ('a' + k);
            alike.append(label).append(": duty x to y by ").append(k % 2 == 0 ? "007 days" : "7 days");
            unlike.append(label).append(": duty x to y by ").append(k).append(" days");
        }
        S.due("24 alike", bench(alike.toString()).outcomes(0, 0), 1);
        ClauseBench y = bench(unlike.toString());
        S.due("24 unlike", y.outcomes(0, 0), 24);
        S.due("the last", y.outcome(0, 0, 23, 3), 23);
        S.of("II", "duty: PARTY, ACT, NUMBER, DAYS; right, ban: PARTY, ACT.");
        ClauseBench z = bench("p: duty x to y by 5 days; q: duty w to y by 5 days; r: duty x to v by 5 days; "
                + "s: duty x to y by 6 days; t: duty x to y by 5 workdays; u: right x to y; v: ban x to y; "
                + "w: right w to y; k: ban x to v; l: right x to y; m: ban x to y; n: duty x to y by 5 days");
        S.due("unlike in each of them", told(z, 0), "1 0 0 5 0, 1 0 0 5 1, 1 0 0 6 0, 1 0 1 5 0, 1 1 0 5 0, "
                + "2 0 0, 2 1 0, 3 0 0, 3 0 1");
    }

    private static void order() {
        S.of("II", "In order: duties ahead of rights ahead of bans, then by PARTY, ACT, NUMBER, days ahead of workdays.");
        ClauseBench x = bench("n: right ua to va; m: right ub to vb; l: ban ub to vb; k: ban ub to va; j: ban ua to vb; "
                + "i: right ub to va; h: duty ub to va by 0 days; g: duty ua to vb by 1 days; "
                + "f: duty ua to va by 365 days; e: duty ua to va by 40 workdays; d: duty ua to va by 40 days; "
                + "c: duty ua to va by 5 workdays");
        S.due("in order", told(x, 0), "1 0 0 5 1, 1 0 0 40 0, 1 0 0 40 1, 1 0 0 365 0, 1 0 1 1 0, 1 1 0 0 0, "
                + "2 0 0, 2 1 0, 2 1 1, 3 0 1, 3 1 0, 3 1 1");
        ClauseBench y = bench("p: right ua to va; q: right ub to vb; r: right uc to vc; s: right ud to vd; "
                + "t: right ue to ve; u: right uf to vf; k: right uf to vg; l: right uf to vh; m: right uf to vi; "
                + "n: right uf to vj; o: right uf to vk; v: right uf to vl", "p: ban ua to va",
                "r: ban uf to vl; q: ban ue to vl; p: duty uf to vl by 365 workdays");
        Tape.version(y, 0, "r: ban uf to vl; q: ban ue to vl; p: duty uf to vl by 365 workdays; s: duty ua to vk by 1 days");
        S.due("by the greatest numbers", told(y, 0), "1 0 10 1 0, 1 5 11 365 1, 3 4 11, 3 5 11");
    }

    private static void world() {
        S.of("II", "The WORLD: a COND (of FACTS alone), all CASES at first:");
        ClauseBench x = bench("define n as a; p: ban x to y");
        S.due("all CASES", x.count(3), 8);
        S.due("a NAME", Tape.world(x, "n"), Tape.fault(0, 3));
        S.due("a LABEL", Tape.world(x, "a or p"), Tape.fault(5, 3));
        S.due("FACTS", Tape.world(x, "a or b and not c"), 5);
        S.of("II", "only CASES in which it is so are looked at.");
        ClauseBench y = bench("p: ban x to y if a; q: duty x to y by 5 days if a or c", "p: ban x to y if b");
        S.due("differs", y.differs(0, 1), 1);
        S.due("changed", y.changed(0, 1, 0, 1), 1);
        S.due("quarrel", y.quarrel(0), 1);
        S.due("gap", y.gap(0, 0), 0);
        Tape.world(y, "b and c or b and not a");
        S.due("differs", y.differs(0, 1), 2);
        S.due("changed", y.changed(0, 1, 0, 1), 2);
        S.due("quarrel", y.quarrel(0), 7);
        S.due("gap", y.gap(0, 0), 2);
        Tape.world(y, "a and b and c");
        S.due("differs in one CASE alone", y.differs(0, 1), 7);
        S.due("no gap in one CASE alone", y.gap(0, 0), -1);
        S.due("no CASE at all", Tape.world(y, "a and not a"), 0);
        S.due("differs", y.differs(0, 1), -1);
        S.due("changed", y.changed(0, 1, 0, 0), -1);
        S.due("quarrel", y.quarrel(0), -1);
        S.due("gap", y.gap(0, 0), -1);
    }

    private static void quarrels() {
        S.of("II", "A QUARREL of a CASE: a duty and a ban of the same PARTY and ACT that both HOLD.");
        S.due("both HOLD", bench("p: duty x to y by 5 days if a; q: ban x to y if b").quarrel(0), 3);
        S.due("the ban ahead of the duty", bench("q: ban x to y if b; p: duty x to y by 5 days if c").quarrel(0), 6);
        S.due("a right and a ban", bench("p: right x to y; q: ban x to y").quarrel(0), -1);
        S.due("a duty and a right", bench("p: duty x to y by 5 days; q: right x to y").quarrel(0), -1);
        S.due("two duties", bench("p: duty x to y by 5 days; q: duty x to y by 6 days").quarrel(0), -1);
        S.due("two bans", bench("p: ban x to y; q: ban x to y").quarrel(0), -1);
        S.due("another PARTY", bench("p: duty x to y by 5 days; q: ban z to y").quarrel(0), -1);
        S.due("another ACT", bench("p: duty x to y by 5 days; q: ban x to z").quarrel(0), -1);
        S.due("never both", bench("p: duty x to y by 5 days if a; q: ban x to y unless a").quarrel(0), -1);
        S.due("one over the other", bench("p: duty x to y by 5 days; q: ban x to y if b over p").quarrel(0), -1);
        S.due("unless that is under a third", bench("p: duty x to y by 5 days; q: ban x to y over p; "
                + "r: right x to z if a over q; s: ban x to y if c").quarrel(0), 5);
    }

    private static void gaps() {
        S.of("II", "GAP for an ACT in a CASE: no duty to it HOLDS.");
        S.due("no duty", bench("p: ban x to y; q: right x to y").gap(0, 0), 0);
        S.due("a duty", bench("p: duty x to y by 5 days").gap(0, 0), -1);
        S.due("a duty at times", bench("p: duty x to y by 5 days unless b").gap(0, 0), 2);
        S.due("duties of two PARTIES", bench("p: duty x to y by 5 days unless b; q: duty z to y by 5 days if b").gap(0, 0),
                -1);
        S.due("another ACT", bench("p: duty x to y by 5 days; q: right x to z").gap(0, 1), 0);
        S.due("a duty that another is over", bench("p: duty x to y by 5 days; q: right x to z if c over p").gap(0, 0), 4);
    }

    /** What comes of a RIDER on BASE. */
    private static void comes(String rider, String text) {
        ClauseBench x = bench(BASE);
        S.due(rider, Tape.rider(x, 0, 1, rider), text.split(";").length);
        S.due(rider, Tape.written(x, 1), text);
    }

    private static void answers(String rider, int answer) {
        ClauseBench x = bench(BASE);
        S.due(rider, Tape.rider(x, 0, 1, rider), answer);
        S.due(rider + ": no VERSION comes", x.count(11), -1);
        S.due(rider + ": no RIDER is on", x.count(4), 0);
        S.due(rider + ": PARTIES", x.count(1), 1);
        S.due(rider + ": ACTS", x.count(2), 2);
    }

    private static void refuses(String marked, int kind) {
        int place = marked.indexOf('|');
        answers(marked.substring(0, place) + marked.substring(place + 1), Tape.fault(place, kind));
    }

    private static String adds(int changes, String letter) {
        StringBuilder text = new StringBuilder();
        for (int k = 0; k < changes; k++) {
            text.append(k > 0 ? "; " : "").append("add ").append(letter).append((char) ('a' + k)).append(": ban x to y");
        }
        return text.toString();
    }

    private static void changes() {
        S.of("III", "RIDERS: a text: CHANGE { ; CHANGE }, 12 at most.");
        ClauseBench x = bench("p: ban x to y");
        for (int n = 1; n <= 12; n++) {
            S.due(n + " CHANGES", Tape.rider(x, 0, 1, adds(n, "q")), n + 1);
        }
        S.due("13 CHANGES", Tape.rider(x, 0, 1, adds(12, "q") + "; strike p"), Tape.fault(adds(12, "q").length() + 2, 4));
        refuses("|", 0);
        refuses("strike r;|", 0);
        refuses("|;strike r", 0);
        refuses("strike r;|;strike s", 0);
        refuses("strike r |strike s", 0);
    }

    private static void strike() {
        S.of("III", "CHANGE: strike LABEL;");
        comes("strike r", "define late as a and b; p: duty x to y by 5 days if late; s: ban x to y over p");
        comes("strike s", "define late as a and b; p: duty x to y by 5 days if late; r: right x to z");
        comes("strike s;strike p\n;strike r", "define late as a and b");
        refuses("strike|", 0);
        refuses("strike |;", 0);
        refuses("strike |5", 0);
        refuses("strike |abcdefghijklm", 1);
        refuses("strike r |s", 0);
        refuses("strike r|: right x to z", 0);
        refuses("strike |late", 3);
        refuses("strike |define late", 2);
    }

    private static void replace() {
        S.of("III", "replace CLAUSE (with the same LABEL, or a define of the same NAME: in its place);");
        comes("replace r: ban z to w if a", "define late as a and b; p: duty x to y by 5 days if late; "
                + "r: ban z to w if a; s: ban x to y over p");
        comes("replace define late as not c", "define late as not c; p: duty x to y by 5 days if late; "
                + "r: right x to z; s: ban x to y over p");
        comes("replace s: right x to y", "define late as a and b; p: duty x to y by 5 days if late; "
                + "r: right x to z; s: right x to y");
        refuses("replace |late: ban x to y", 3);
        refuses("replace define |p as a", 3);
        refuses("replace|", 0);
        refuses("replace r|", 0);
        refuses("replace |5", 0);
        ClauseBench x = bench("define p as a; p: ban x to y if p");
        S.due("of two alike the CLAUSE", Tape.rider(x, 0, 1, "replace p: ban x to z"), 2);
        S.due("of two alike the CLAUSE", Tape.written(x, 1), "define p as a; p: ban x to z");
        S.due("of two alike the define", Tape.rider(x, 0, 1, "replace define p as b"), 2);
        S.due("of two alike the define", Tape.written(x, 1), "define p as b; p: ban x to y if p");
    }

    private static void add() {
        S.of("III", "add CLAUSE (at the end).");
        comes("add t: ban x to y", BASE + "; t: ban x to y");
        comes("add define soon as late; add t: duty x to z by 365 workdays if soon over r",
                BASE + "; define soon as late; t: duty x to z by 365 workdays if soon over r");
        refuses("add|", 0);
        refuses("add t|", 0);
        refuses("add |add", 2);
        S.of("III", "On a VERSION they are done in order;");
        comes("strike r; add r: ban x to z", "define late as a and b; p: duty x to y by 5 days if late; "
                + "s: ban x to y over p; r: ban x to z");
        comes("add t: ban x to y; replace t: ban x to z", BASE + "; t: ban x to z");
        comes("add t: ban x to y; strike t", BASE);
        comes("replace r: ban x to y; replace r: ban x to z", BASE.replace("r: right", "r: ban"));
        refuses("strike r; replace |r: ban x to z", 3);
        refuses("replace |t: ban x to z; add t: ban x to y", 3);
        S.of("III", "the text that comes of it is read as a VERSION (all LABELS and NAMES told ahead again).");
        answers("strike p", -2);
        answers("replace p: duty x to y by 5 days over s", -2);
        answers("replace define late as late", -2);
        answers("add t: ban x to y if soon; add define soon as a", -2);
        answers("replace p: duty x to y by 5 days if soon; add define soon as a", -2);
        comes("strike s; strike p; add s: ban x to y", "define late as a and b; r: right x to z; s: ban x to y");
        ClauseBench x = bench("p: ban x to y if a; q: right x to y if b over p");
        Tape.rider(x, 0, 0, "replace p: duty z to w by 3 days unless c");
        S.due("a PARTY", x.clause(0, 0, 1), 1);
        S.due("an ACT", x.clause(0, 0, 2), 1);
        S.due("where it HOLDS", table(x, 0), "11000000");
        S.due("what it is over", x.clause(0, 1, 5), 1);
    }

    private static void riderFaults() {
        S.of("III", "To be refused: FAULTS as above");
        refuses("add t: ban |if to y", 2);
        refuses("add t: ban x to |by", 2);
        refuses("add |if: ban x to y", 2);
        refuses("add define |if as a", 2);
        refuses("add t: ban x to y over |and", 2);
        refuses("replace r: ban x to y |by", 0);
        refuses("add t: duty x to y by |366 days", 1);
        refuses("add t: duty x to y by |0001 days", 1);
        refuses("add |abcdefghijklm: ban x to y", 1);
        refuses("add t: ban x to y if |unless", 0);
        refuses("add t: ban x to y if (zz|", 0);
        refuses("add t: ban x to y if " + "zz or ".repeat(60) + "|zz", 6);
        refuses("replace define late as " + "(".repeat(10) + "|(a", 6);
        S.of("III", "(0 for what is no CHANGE;");
        refuses("|drop p", 0);
        refuses("|p: ban x to y", 0);
        refuses("|define n as a", 0);
        refuses("|5", 0);
        refuses("strike r; |if", 0);
        refuses(adds(12, "q") + "; |drop", 0);
        S.of("III", "2 for a WORD of the language as LABEL behind strike;");
        for (String word : "define as duty right ban to by days workdays if unless over and or not strike replace add"
                .split(" ")) {
            refuses("strike |" + word, 2);
        }
        S.of("III", "3 for a LABEL or NAME that there is not then;");
        refuses("strike |z", 3);
        refuses("replace |z: ban x to y", 3);
        refuses("replace define |z as a", 3);
        refuses("replace define |a as b", 3);
        refuses("strike r; strike |r", 3);
        refuses("strike |t; add t: ban x to y", 3);
        S.of("III", "4 for the 13th CHANGE);");
        refuses(adds(12, "q") + "; |add r: ban x to y", 4);
        refuses(adds(12, "q") + "; |strike z", 4);
        refuses(adds(12, "q") + "; |replace", 4);
        refuses(adds(12, "q") + ";|", 0);
    }

    private static void askedAsRead() {
        S.of("III", "a LABEL or NAME that is struck or replaced is asked as it is read;");
        refuses("strike |z; drop", 3);
        refuses("replace |z: ban if", 3);
        refuses("replace define |z as if", 3);
        refuses("strike r; |drop; strike z", 0);
        refuses("add t: ban x to y if zz; strike |z", 3);
    }

    private static void askedOfTheWhole() {
        S.of("III", "else CLAUSES within are read by themselves: what NAMES and LABELS in them mean,");
        answers("add t: ban x to y if zz", -2);
        answers("add define n as zz", -2);
        answers("add t: ban x to y over zz", -2);
        answers("replace r: right x to z unless zz", -2);
        refuses("add t: ban x to y if zz |zz", 0);
        refuses("add t: ban x to y over zz |zz", 0);
        comes("add t: ban x to y if zz over yy; strike t", BASE);
        S.of("III", "whether they are told twice or FACTS,");
        answers("add p: ban x to y", -2);
        answers("add define late as a", -2);
        answers("add define a as b", -2);
        refuses("add define a as |if", 0);
        comes("add s: ban x to z; strike s", "define late as a and b; p: duty x to y by 5 days if late; "
                + "r: right x to z; s: ban x to z");
        S.of("III", "how many CLAUSES, PARTIES, ACTS there are,");
        ClauseBench x = bench("p: ban x to y");
        S.due("13 CLAUSES", Tape.rider(x, 0, 0, adds(12, "q")), 13);
        S.due("25 CLAUSES", Tape.rider(x, 0, 1, adds(12, "r")), -2);
        S.due("25 CLAUSES at a time", Tape.rider(x, 0, 1, adds(11, "r") + "; strike p"), 23);
        S.due("24 CLAUSES", Tape.rider(x, 0, 1, adds(11, "r")), 24);
        S.due("36 CLAUSES", Tape.rider(x, 1, 2, adds(12, "s")), -2);
        answers("add t: ban ua to y; add u: ban ub to y; add v: ban uc to y; add w: ban ud to y; add k: ban ue to y; "
                + "add l: ban uf to y", -2);
        comes("add t: ban ua to y; add u: ban ub to y; add v: ban uc to y; add w: ban ud to y; add k: ban ue to y",
                BASE + "; t: ban ua to y; u: ban ub to y; v: ban uc to y; w: ban ud to y; k: ban ue to y");
        comes("add t: ban ua to y; add u: ban ub to y; add v: ban uc to y; add w: ban ud to y; add k: ban ue to y; "
                + "add l: ban uf to y; strike t", BASE
                + "; u: ban ub to y; v: ban uc to y; w: ban ud to y; k: ban ue to y; l: ban uf to y");
        String acts = "add ta: ban x to va; add tb: ban x to vb; add tc: ban x to vc; add td: ban x to vd; "
                + "add te: ban x to ve; add tf: ban x to vf; add tg: ban x to vg; add th: ban x to vh; "
                + "add ti: ban x to vi; add tj: ban x to vj";
        comes(acts, BASE + "; " + acts.replace("add ", ""));
        answers(acts + "; add tk: ban x to vk", -2);
    }

    private static void tooLong() {
        S.of("III", "is asked of the whole text that comes of it: if that has a FAULT, or WRITTEN more than 900 bytes, "
                + "it is refused with -2.");
        ClauseBench none = bench("p: ban x to y");
        S.due("no CLAUSE is left", Tape.rider(none, 0, 0, "strike p"), -2);
        S.due("it stays", none.count(10), 1);
        String most = "p: ban x to y if a" + " or a".repeat(59) + " unless a" + " or a".repeat(59);
        ClauseBench x = bench(most);
        String fits = "add q: ban x to y if a" + " or a".repeat(45) + " unless b" + " or a".repeat(4);
        int length = most.length() + 2 + fits.length() - 4;
        String named = fits.replace("ban x", "ban " + "x".repeat(901 - length));
        S.due("900 bytes", Tape.rider(x, 0, 1, named), 2);
        S.due("900 bytes", x.write(1), 900);
        S.due("901 bytes", Tape.rider(x, 0, 2, named.replace("q:", "qq:")), -2);
        S.due("none comes", x.count(12), -1);
        S.due("as many bytes, but blanks", Tape.rider(x, 0, 2, named.replace(" or a", "  or\na")), 2);
        S.due("900 bytes", x.write(2), 900);
    }

    private static void written() {
        S.of("III", "WRITTEN: CLAUSES in order, ; and a blank between;");
        ClauseBench x = bench("q:ban x to y;p:ban x to y\n;\ndefine n as a");
        S.due("in order", Tape.written(x, 0), "q: ban x to y; p: ban x to y; define n as a");
        S.of("III", "one blank between WORDS, NUMBERS and signs,");
        ClauseBench y = bench("p  :\n\nduty\nx  to y by5days if  a and(b)or not(c)");
        S.due("one blank", Tape.written(y, 0), "p: duty x to y by 5 days if a and (b) or not (c)");
        S.of("III", "but none behind (, none ahead of ), : and ;.");
        ClauseBench z = bench("p : ban x to y if ( ( a ) and ( not ( b ) ) ) ; q : ban x to y over p ");
        S.due("none", Tape.written(z, 0), "p: ban x to y if ((a) and (not (b))); q: ban x to y over p");
        S.of("III", "NUMBERS without 0s ahead.");
        ClauseBench u = bench("p: duty x to y by 000 days; q: duty x to y by 007 days; r: duty x to y by 010 days; "
                + "s: duty x to y by 00 days; t: duty x to y by 100 days; u: duty x to y by 305 days");
        S.due("NUMBERS", Tape.written(u, 0), "p: duty x to y by 0 days; q: duty x to y by 7 days; "
                + "r: duty x to y by 10 days; s: duty x to y by 0 days; t: duty x to y by 100 days; "
                + "u: duty x to y by 305 days");
        for (int number = 0; number <= 365; number++) {
            String text = "p: duty x to y by " + number + " days";
            ClauseBench v = bench();
            Tape.version(v, 0, text.replace("by ", number < 10 ? "by 00" : number < 100 ? "by 0" : "by "));
            S.due("NUMBER " + number, Tape.written(v, 0), text);
        }
    }

    private static void calendar() {
        String text = "p: duty x to y by 0 days; q: duty x to y by 1 workdays";
        S.of("IV", "CALENDAR: DAYS 0 to 9999;");
        ClauseBench x = bench(text);
        S.due("ahead of the first", x.due(0, 0, 0, -1), -1);
        S.due("the first", x.due(0, 0, 0, 0), 0);
        S.due("the last", x.due(0, 0, 0, 9999), 9999);
        S.due("behind the last", x.due(0, 0, 0, 10000), -1);
        S.due("ahead of the first", x.free(-1, true), false);
        S.due("behind the last", x.free(10000, true), false);
        S.of("IV", "of each seven the sixth and seventh (5, 6, 12, 13, ..) are no WORKDAYS,");
        for (int day = 0; day < 9996; day++) {
            int next = day + 1;
            while (next % 7 == 5 || next % 7 == 6) {
                next++;
            }
            x = day % 400 == 0 ? bench(text) : x;
            S.due("the WORKDAY behind " + day, x.due(0, 0, 1, day), next);
        }
        S.of("IV", "nor are FREE days told.");
        x = bench(text);
        x.free(14, true);
        x.free(15, true);
        x.free(9999, true);
        S.due("a FREE day", x.due(0, 0, 1, 11), 16);
        S.due("from a FREE day", x.due(0, 0, 1, 14), 16);
        S.due("the last is FREE", x.due(0, 0, 1, 9998), -1);
        x.free(14, false);
        x.free(9999, false);
        S.due("FREE no more", x.due(0, 0, 1, 11), 14);
        S.due("from it", x.due(0, 0, 1, 14), 16);
        S.due("the last is FREE no more", x.due(0, 0, 1, 9998), 9999);
        x.free(19, true);
        x.free(19, false);
        S.due("the sixth is none, also FREE no more", x.due(0, 0, 1, 18), 21);
    }

    private static void by() {
        ClauseBench x = bench("p: duty x to y by 0 days; q: duty x to y by 0 workdays; r: duty x to y by 1 days; "
                + "s: duty x to y by 5 days; t: duty x to y by 5 workdays; u: duty x to y by 365 days; "
                + "v: duty x to y by 365 workdays");
        S.of("IV", "By NUMBER days from a DAY: that many on;");
        x.free(10, true);
        S.due("0 days", x.due(0, 0, 0, 10), 10);
        S.due("1 days to the sixth of seven", x.due(0, 0, 2, 4), 5);
        S.due("5 days to a FREE day", x.due(0, 0, 3, 5), 10);
        S.due("365 days", x.due(0, 0, 5, 1), 366);
        S.due("365 days to the last DAY", x.due(0, 0, 5, 9634), 9999);
        x.free(10, false);
        S.of("IV", "by workdays: the NUMBER-th WORKDAY behind the DAY");
        S.due("5 workdays", x.due(0, 0, 4, 0), 7);
        S.due("5 workdays from the fifth of seven", x.due(0, 0, 4, 4), 11);
        S.due("5 workdays from the sixth", x.due(0, 0, 4, 5), 11);
        S.due("365 workdays are 73 weeks", x.due(0, 0, 6, 3), 3 + 73 * 7);
        S.due("365 workdays to the last DAYS", x.due(0, 0, 6, 9999 - 73 * 7), 9999);
        S.due("365 workdays beyond", x.due(0, 0, 6, 9999 - 73 * 7 + 1), -1);
        S.of("IV", "(0: the DAY itself).");
        x.free(9, true);
        for (int day = 0; day < 15; day++) {
            S.due("0 workdays from " + day, x.due(0, 0, 1, day), day);
        }
        S.due("0 workdays", x.due(0, 0, 1, 9999), 9999);
    }
}
