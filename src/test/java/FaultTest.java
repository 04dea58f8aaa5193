/** Promises 4, 5 and 8: FACTS, VERSIONS and the WORLD, and how each text is refused. */
public final class FaultTest {
    private static final Tape T = new Tape();
    private static final String NOTS = "not not not not not not not not not not ";

    public static void main(String[] args) {
        facts();
        factsFaults();
        version();
        misplaced();
        tooLong();
        taken();
        unknown();
        tooMany();
        parties();
        conditions();
        world();
        T.close("FaultTest");
    }

    /** A text that is refused, by its FAULT at the place where a sign # stands (which is taken out). */
    private static void refused(String marked, int kind) {
        int place = marked.indexOf('#');
        String text = marked.substring(0, place) + marked.substring(place + 1);
        ClauseBench x = new ClauseBench();
        Tape.facts(x, "a b c");
        Tape.version(x, 0, "k: right z to w; l: right z to w");
        T.due(marked, Tape.version(x, 0, text), Tape.fault(place, kind));
        T.due(marked + ": the TAPE is empty", x.count(5), 0);
        T.due(marked + ": the VERSION stays", x.count(10), 2);
        T.due(marked + ": no PARTIES come", x.count(1), 1);
        T.due(marked + ": no ACTS come", x.count(2), 1);
    }

    private static void accepted(String text, int clauses) {
        ClauseBench x = new ClauseBench();
        Tape.facts(x, "a b c");
        T.due(text, Tape.version(x, 3, text), clauses);
        T.due(text, x.count(13), clauses);
        T.due(text, x.count(5), 0);
    }

    private static void facts() {
        ClauseBench x = new ClauseBench();
        T.due("FACTS", Tape.facts(x, "\n a\nbcdefghijklm c \n"), 3);
        T.due("the TAPE is empty", x.count(5), 0);
        T.due("how many", x.count(0), 3);
        T.due("CASES", x.count(3), 8);
        T.due("told already", Tape.facts(x, "d"), -1);
        T.due("the TAPE is empty", x.count(5), 0);
        T.due("as many as before", x.count(0), 3);
        T.due("told already, with a FAULT", Tape.facts(x, "if"), -1);
        ClauseBench y = new ClauseBench();
        T.due("eight", Tape.facts(y, "a b c d e f g h"), 8);
        T.due("CASES", y.count(3), 256);
        ClauseBench z = new ClauseBench();
        T.due("one", Tape.facts(z, "abcdefghijkl"), 1);
        T.due("CASES", z.count(3), 2);
    }

    private static void factsFaults() {
        ClauseBench x = new ClauseBench();
        T.due("none", Tape.facts(x, ""), Tape.fault(0, 0));
        T.due("blanks", Tape.facts(x, " \n "), Tape.fault(3, 0));
        T.due("a NUMBER", Tape.facts(x, "a 1"), Tape.fault(2, 0));
        T.due("a NUMBER at once behind", Tape.facts(x, "a1"), Tape.fault(1, 0));
        T.due("a NUMBER above 365 that can't stand there", Tape.facts(x, "a 400"), Tape.fault(2, 0));
        T.due("a NUMBER of more digits", Tape.facts(x, "a 0001"), Tape.fault(2, 1));
        T.due("a sign", Tape.facts(x, "a ; b"), Tape.fault(2, 0));
        T.due("a great letter", Tape.facts(x, "a bC"), Tape.fault(3, 0));
        T.due("a tab", Tape.facts(x, "a\tb"), Tape.fault(1, 0));
        T.due("a high byte", Tape.facts(x, "a \u00e4"), Tape.fault(2, 0));
        T.due("a byte 0", Tape.facts(x, "a \u0000"), Tape.fault(2, 0));
        T.due("too long", Tape.facts(x, "a abcdefghijklm"), Tape.fault(2, 1));
        T.due("told twice", Tape.facts(x, "a bc a"), Tape.fault(5, 2));
        String[] ours = ("define as duty right ban to by days workdays if unless over and or not strike replace add")
                .split(" ");
        for (String word : ours) {
            T.due(word, Tape.facts(x, "a " + word), Tape.fault(2, 2));
        }
        T.due("the ninth", Tape.facts(x, "a b c d e f g h i"), Tape.fault(16, 6));
        T.due("the ninth told twice", Tape.facts(x, "a b c d e f g h a"), Tape.fault(16, 2));
        T.due("the ninth of the language", Tape.facts(x, "a b c d e f g h if"), Tape.fault(16, 2));
        T.due("the ninth too long", Tape.facts(x, "a b c d e f g h abcdefghijklm"), Tape.fault(16, 1));
        T.due("the ninth a NUMBER", Tape.facts(x, "a b c d e f g h 1"), Tape.fault(16, 0));
        T.due("none is told yet", x.count(0), 0);
        T.due("no CASES", x.count(3), 0);
        T.due("told at last", Tape.facts(x, "d"), 1);
    }

    private static void version() {
        ClauseBench x = new ClauseBench();
        T.due("without FACTS", Tape.version(x, 0, "p: ban x to y"), -1);
        T.due("the TAPE is empty", x.count(5), 0);
        Tape.facts(x, "a");
        T.due("VERSION -1", Tape.version(x, -1, "p: ban x to y"), -1);
        T.due("VERSION 4", Tape.version(x, 4, "p: ban x to y"), -1);
        T.due("VERSION 4 with a FAULT", Tape.version(x, 4, "p"), -1);
        T.due("no PARTY came", x.count(1), 0);
        T.due("VERSION 3", Tape.version(x, 3, "p: ban x to y"), 1);
        T.due("in place of what it was", Tape.version(x, 3, "p: ban x to y; q: ban x to y"), 2);
        T.due("its CLAUSES", x.count(13), 2);
        accepted("p:ban x to y", 1);
        accepted("p:duty x to y by365workdays", 1);
        accepted("a: ban a to a if a unless a", 1);
        accepted("define p as a; p: ban x to y if p", 2);
        accepted("p: ban p to p; define p as a", 2);
        accepted("k: ban x to y; p: ban x to y if a and b or not (c) unless a or b over k", 2);
        accepted("p: ban x to y; q: ban x to y over p and p", 2);
        accepted("\n\np :\nban x to y ;q: right x to z \n", 2);
    }

    private static void misplaced() {
        refused("#", 0);
        refused("  \n#", 0);
        refused("#;", 0);
        refused("#: ban x to y", 0);
        refused("#5: ban x to y", 0);
        refused("p#", 0);
        refused("p #", 0);
        refused("p #ban x to y", 0);
        refused("p #5", 0);
        refused("p #400", 0);
        refused("p:#", 0);
        refused("p: #rule x to y", 0);
        refused("p: #if x to y", 0);
        refused("p: #define x as a", 0);
        refused("p: ban#", 0);
        refused("p: ban #1 to y", 0);
        refused("p: ban x #over y", 0);
        refused("p: ban x #y", 0);
        refused("p: ban x to #: y", 0);
        refused("p: ban x to#", 0);
        refused("p: ban x to y #by 5 days", 0);
        refused("p: ban x to y #z", 0);
        refused("p: ban x to y;#", 0);
        refused("p: ban x to y; #;", 0);
        refused("p: ban x to y #*", 0);
        refused("p: ban x to y#A", 0);
        refused("p: ban x to y#\t", 0);
        refused("p: ban x to y#\u0000", 0);
        refused("p: ban x to y #\u00ff", 0);
        refused("p: duty x to y#", 0);
        refused("p: duty x to y #if a", 0);
        refused("p: duty x to y by #days", 0);
        refused("p: duty x to y by #z days", 0);
        refused("p: duty x to y by 5#", 0);
        refused("p: duty x to y by 5 #if a", 0);
        refused("p: duty x to y by 5 #weeks", 0);
        refused("p: duty x to y by 5 #5", 0);
        refused("p: ban x to y unless a #if b", 0);
        refused("p: ban x to y if a #if b", 0);
        refused("p: ban x to y if#", 0);
        refused("p: ban x to y if #unless a", 0);
        refused("p: ban x to y if a and#", 0);
        refused("p: ban x to y if a and #or b", 0);
        refused("p: ban x to y if a #not b", 0);
        refused("p: ban x to y if a #b", 0);
        refused("p: ban x to y if a #(b)", 0);
        refused("p: ban x to y if (a#", 0);
        refused("p: ban x to y if (a #unless b", 0);
        refused("p: ban x to y if (a #; q: ban x to y", 0);
        refused("p: ban x to y if a#)", 0);
        refused("p: ban x to y if (#)", 0);
        refused("p: ban x to y if #400", 0);
        refused("p: ban x to y if #1", 0);
        refused("p: ban x to y if not#", 0);
        refused("k: ban x to y; p: ban x to y over#", 0);
        refused("k: ban x to y; p: ban x to y over #5", 0);
        refused("k: ban x to y; p: ban x to y over k and#", 0);
        refused("k: ban x to y; p: ban x to y over k #or k", 0);
        refused("k: ban x to y; p: ban x to y over k #if a", 0);
        refused("define#", 0);
        refused("define #: ban x to y", 0);
        refused("define n #a", 0);
        refused("define n as#", 0);
        refused("define n as a #if b", 0);
        refused("define n as a #over k", 0);
    }

    private static void tooLong() {
        refused("#abcdefghijklm: ban x to y", 1);
        refused("p #abcdefghijklm", 1);
        refused("p: #abcdefghijklm x to y", 1);
        refused("p: ban #abcdefghijklm to y", 1);
        refused("p: ban x #abcdefghijklm y", 1);
        refused("p: ban x to #abcdefghijklm", 1);
        refused("p: ban x to y #abcdefghijklm", 1);
        refused("p: ban x to y if #abcdefghijklm", 1);
        refused("p: ban x to y if a #abcdefghijklm", 1);
        refused("p: ban x to y over #abcdefghijklm", 1);
        refused("define #abcdefghijklm as a", 1);
        refused("p: duty x to y by #366 days", 1);
        refused("p: duty x to y by #400 days", 1);
        refused("p: duty x to y by #0001 days", 1);
        refused("p: duty x to y by #1000 days", 1);
        refused("p: duty x to y by 1 #99999999999999", 1);
        refused("#0000", 1);
        refused("p #1234", 1);
        refused("p: ban x to y if #1234", 1);
        refused("p: ban #if to abcdefghijklm", 2);
        accepted("abcdefghijkl: duty abcdefghijkl to abcdefghijkl by 365 days", 1);
        accepted("p: duty x to y by 000 days", 1);
    }

    private static void taken() {
        String[] ours = ("as duty right ban to by days workdays if unless over and or not strike replace add")
                .split(" ");
        for (String word : ours) {
            refused("#" + word + ": ban x to y", 2);
            refused("define #" + word + " as a", 2);
            refused("p: ban #" + word + " to y", 2);
            refused("p: ban x to #" + word, 2);
            refused("k: ban x to y; p: ban x to y over #" + word, 2);
        }
        refused("define #define as a", 2);
        refused("p: ban #define to y", 2);
        refused("define #a as b", 2);
        refused("define n as a; define #n as b", 2);
        refused("define n as a; define m as b; define #n as zzz", 2);
        refused("p: ban x to y; #p: ban x to y", 2);
        refused("p: ban x to y; #p", 2);
    }

    private static void unknown() {
        refused("p: ban x to y if #z", 3);
        refused("p: ban x to y if a and #z", 3);
        refused("p: ban x to y unless not (#z)", 3);
        refused("p: ban x to y if #n; define n as a", 3);
        refused("define n as #n", 3);
        refused("p: ban x to y if #p", 3);
        refused("p: ban x to y over #q", 3);
        refused("p: ban x to y over #p", 3);
        refused("p: ban x to y over #q; q: ban x to y", 3);
        refused("define n as a; p: ban x to y over #n", 3);
        refused("k: ban x to y; p: ban x to y over k and #a", 3);
    }

    private static String labelled(int clauses) {
        StringBuilder text = new StringBuilder();
        for (int k = 0; k < clauses; k++) {
            text.append("p").append((char) ('a' + k)).append(": ban x to y; ");
        }
        return text.toString();
    }

    private static void tooMany() {
        String full = labelled(24);
        accepted(full.substring(0, full.length() - 2), 24);
        refused(full + "#p: ban x to y", 4);
        refused(full + "#p", 4);
        refused(full + "#define n as a", 4);
        refused(full + "#define if", 4);
        refused(full + "#pa: ban x to y", 2);
        refused(full + "#if: ban x to y", 2);
        refused(full + "#;", 0);
        refused(full + "#", 0);
        refused(full + "#5", 0);
        refused(full + "#abcdefghijklm: ban x to y", 1);
        accepted(labelled(23) + "define n as a", 24);
    }

    private static void parties() {
        ClauseBench x = new ClauseBench();
        Tape.facts(x, "a");
        Tape.version(x, 0, "p: ban ua to va; q: ban ub to vb; r: ban uc to vc");
        String more = "p: ban ud to vd; q: ban ue to ve; r: ban uf to vf; s: ban ";
        T.due("the 7th PARTY", Tape.version(x, 1, more + "ug to vg"), Tape.fault(more.length(), 5));
        T.due("those of it don't come", x.count(1), 3);
        T.due("those of it don't come", x.count(2), 3);
        T.due("a WORD of the language", Tape.version(x, 1, more + "if to vg"), Tape.fault(more.length(), 2));
        T.due("a PARTY that is too long", Tape.version(x, 1, more + "abcdefghijklm to vg"),
                Tape.fault(more.length(), 1));
        T.due("6 PARTIES", Tape.version(x, 1, more + "ua to vg"), 4);
        T.due("6 PARTIES", x.count(1), 6);
        T.due("7 ACTS", x.count(2), 7);
        T.due("PARTIES stay when their VERSION goes", Tape.version(x, 1, "p: ban uf to va"), 1);
        T.due("6 PARTIES", x.count(1), 6);
        T.due("the number of the 6th", x.clause(1, 0, 1), 5);
        String acts = "p: ban ua to vh; q: ban ua to vi; r: ban ua to vj; s: ban ua to vk; t: ban ua to vl; u: ban ua to ";
        T.due("the 13th ACT", Tape.version(x, 2, acts + "vm"), Tape.fault(acts.length(), 5));
        T.due("12 ACTS", Tape.version(x, 2, acts + "va"), 6);
        T.due("12 ACTS", x.count(2), 12);
        T.due("the 12th", x.clause(2, 4, 2), 11);
        T.due("the first", x.clause(2, 5, 2), 0);
    }

    private static void conditions() {
        StringBuilder sixty = new StringBuilder("a");
        for (int k = 1; k < 60; k++) {
            sixty.append(k % 2 == 0 ? " and a" : " or b");
        }
        accepted("define n as " + sixty + "; p: ban x to y if " + sixty + " unless " + sixty, 2);
        refused("define n as " + sixty + " or #a", 6);
        refused("define n as " + sixty + " or #z", 3);
        refused("define n as " + sixty + " or #if", 0);
        refused("define n as " + sixty + " or #abcdefghijklm", 1);
        refused("p: ban x to y unless (" + sixty + ") and not #b", 6);
        accepted("define n as " + NOTS + "a", 1);
        refused("define n as " + NOTS + "#not a", 6);
        refused("define n as " + NOTS + "#(a", 6);
        accepted("define n as ((((((((((a))))))))))", 1);
        refused("define n as ((((((((((#(a", 6);
        refused("define n as ((((((((((#not a", 6);
        accepted("define n as not (not (not (not (not (a))))) and not (not (not (not (not (a)))))", 1);
        refused("define n as not (not (not (not (not (a and #not b", 6);
        accepted("define n as not (not (not (not (not a and not b))))", 1);
    }

    private static void world() {
        ClauseBench x = new ClauseBench();
        T.due("without FACTS", Tape.world(x, "a"), -1);
        T.due("the TAPE is empty", x.count(5), 0);
        Tape.facts(x, "a b c");
        Tape.version(x, 0, "define n as a; p: ban x to y");
        T.due("all", x.count(3), 8);
        T.due("a COND", Tape.world(x, "a and (b or not c)"), 3);
        T.due("the TAPE is empty", x.count(5), 0);
        T.due("how many", x.count(3), 3);
        T.due("a NAME", Tape.world(x, "a or n"), Tape.fault(5, 3));
        T.due("two", Tape.world(x, "a b"), Tape.fault(2, 0));
        T.due("a sign behind", Tape.world(x, "a ;"), Tape.fault(2, 0));
        T.due("a ) behind", Tape.world(x, "a )"), Tape.fault(2, 0));
        T.due("of the language", Tape.world(x, "if"), Tape.fault(0, 0));
        T.due("too long", Tape.world(x, "a abcdefghijklm"), Tape.fault(2, 1));
        T.due("the end", Tape.world(x, "a or "), Tape.fault(5, 0));
        T.due("too deep", Tape.world(x, NOTS + "not a"), Tape.fault(40, 6));
        T.due("it stays", x.count(3), 3);
        T.due("no CASE", Tape.world(x, "a and not a"), 0);
        T.due("no CASE", x.count(3), 0);
        T.due("none differs", x.differs(0, 0), -1);
        T.due("no gap", x.gap(0, 0), -1);
        T.due("blanks", Tape.world(x, " \n"), 8);
        T.due("no byte", Tape.world(x, ""), 8);
        T.due("all again", x.count(3), 8);
        T.due("the least CASE", x.gap(0, 0), 0);
        Tape.world(x, "c");
        T.due("the least CASE of the WORLD", x.gap(0, 0), 4);
        ClauseBench y = new ClauseBench();
        Tape.facts(y, "a b c d e f g h");
        T.due("of the last FACTS", Tape.world(y, "h and not g and f"), 32);
        Tape.version(y, 0, "p: ban x to y");
        T.due("the least CASE of them", y.gap(0, 0), 128 + 32);
    }
}
