/** Terms, I. TEXTS, sentence by sentence: what a text is, which are read, and where the others are refused. */
public final class TextSentencesTest {
    private static final Sentences S = new Sentences("I");
    private static final String[] OURS = ("define as duty right ban to by days workdays if unless over and or not "
            + "strike replace add").split(" ");
    private static final String LONG = "abcdefghijklm";

    public static void main(String[] args) {
        texts();
        words();
        numbers();
        signs();
        facts();
        cases();
        versions();
        clauses();
        tails();
        conds();
        names();
        labels();
        parties();
        limits();
        faults();
        misplaced();
        tooLong();
        taken();
        unknown();
        tooMany();
        leastNumber();
        S.close("TextSentencesTest");
    }

    private static void of(String sentence) {
        S.of("I", sentence);
    }

    private static ClauseBench bench() {
        ClauseBench x = new ClauseBench();
        Tape.facts(x, "a b c");
        return x;
    }

    private static void reads(String text, int clauses) {
        S.due(text, Tape.version(bench(), 0, text), clauses);
    }

    /** The first | stands where the FAULT is, and is no part of the text. */
    private static String unmarked(String marked) {
        int place = marked.indexOf('|');
        return marked.substring(0, place) + marked.substring(place + 1);
    }

    private static void refuses(String marked, int kind) {
        S.due(marked, Tape.version(bench(), 0, unmarked(marked)), Tape.fault(marked.indexOf('|'), kind));
    }

    private static void refusesFacts(String marked, int kind) {
        S.due(marked, Tape.facts(new ClauseBench(), unmarked(marked)), Tape.fault(marked.indexOf('|'), kind));
    }

    private static String padded(String text, int length) {
        return text + " ".repeat(length - text.length());
    }

    /** In which CASES the last CLAUSE of a text HOLDS, as 0s and 1s from CASE 0 on. */
    private static String table(String text) {
        ClauseBench x = bench();
        int last = Tape.version(x, 0, text) - 1;
        StringBuilder table = new StringBuilder();
        for (int which = 0; which < 8; which++) {
            table.append(x.holds(0, last, which));
        }
        return table.toString();
    }

    private static String bans(int clauses) {
        StringBuilder text = new StringBuilder("pa: ban x to y");
        for (int k = 1; k < clauses; k++) {
            text.append("; p").append((char) ('a' + k)).append(": ban x to y");
        }
        return text.toString();
    }

    private static String repeated(String word, String joint, int times) {
        return (word + joint).repeat(times - 1) + word;
    }

    private static void texts() {
        of("TEXTS, 900 bytes at most,");
        reads(padded("p: ban x to y", 900), 1);
        refuses(padded("p: ban x to y", 899) + "|z", 0);
        refuses(padded("p: ban x to y", 899) + ";|", 0);
        refuses("|" + ";".repeat(900), 0);
        refuses("p|" + "(".repeat(899), 0);
        S.due("FACTS of 900 bytes", Tape.facts(new ClauseBench(), " ".repeat(899) + "a"), 1);
        ClauseBench x = bench();
        Tape.put(x, padded("p: ban x to y", 900));
        S.due("no byte behind 900", x.feed(0x3b3b3b3b, 0, 0, 0, 0), -1);
        S.due("900 bytes are read", x.version(0), 1);
    }

    private static void words() {
        of("are WORDS (small letters, 12 at most; as far as letters go on),");
        reads("abcdefghijkl: ban mnopqrstuvwx to zzzzzzzzzzzz", 1);
        ClauseBench x = bench();
        Tape.version(x, 0, "abcdefghijkl: ban x to y");
        S.due("12 letters", x.clause(0, 0, 6), 12);
        refuses("|abcdefghijklm: ban x to y", 1);
        refuses("|" + "z".repeat(900), 1);
        refuses("p|A: ban x to y", 0);
        refuses("p: ban x to y|Z", 0);
        refuses("p: ban x to y|`", 0);
        refuses("p: ban x to y|{", 0);
        refuses("p: ban x to y|@", 0);
        refuses("p: ban x to y|[", 0);
        refuses("p: |banx to y", 0);
        refuses("p: ban x |toy", 0);
        refuses("definen |as a", 0);
        refuses("p: |b an x to y", 0);
        refuses("p: duty x to y |byz5 days", 0);
    }

    private static void numbers() {
        of("NUMBERS (digits, 3 at most; as far as digits go on),");
        reads("p: duty x to y by 365 days", 1);
        reads("p:duty x to y by000workdays", 1);
        ClauseBench x = bench();
        Tape.version(x, 0, "p: duty x to y by 190 days; q: duty x to y by 287days; r: duty x to y by 346 days");
        S.due("digits", x.clause(0, 0, 3), 190);
        S.due("digits", x.clause(0, 1, 3), 287);
        S.due("digits", x.clause(0, 2, 3), 346);
        refuses("p: duty x to y by |0365 days", 1);
        refuses("p: duty x to y by |0000 days", 1);
        refuses("p: duty x to y by |" + "0".repeat(800), 1);
        refuses("p: duty x to y by 3 |65 days", 0);
        refuses("p: duty x to y by 36|/ days", 0);
        refuses("p: duty x to y by 36|: days", 0);
        refuses("p: duty x to y by 36|a days", 0);
    }

    private static void signs() {
        of("signs : ; ( )");
        reads("p:ban x to y if(a)and((b)or c);q:ban x to y", 2);
        for (int b = 0; b < 256; b++) {
            boolean letter = b >= 'a' && b <= 'z';
            boolean digit = b >= '0' && b <= '9';
            boolean known = b == ' ' || b == '\n' || b == ':' || b == ';' || b == '(' || b == ')' || letter || digit;
            if (!known) {
                refuses("p: ban x to y if |" + (char) b + " a", 0);
                refuses("|" + (char) b, 0);
            }
        }
        of("with blanks (32, 10) anywhere between.");
        reads("\n  p\n:\n ban  x\nto \n y\nif (\n a ) ;\n\nq : right x to y \n \n", 2);
        reads("p:ban x to y", 1);
        refuses("p:|\tban x to y", 0);
        refuses("p:|\rban x to y", 0);
        refuses("p:|\u000bban x to y", 0);
        refuses("p:|\u0000ban x to y", 0);
        refuses("p:|\u001fban x to y", 0);
        refuses("p:|\u00a0ban x to y", 0);
    }

    private static void facts() {
        of("FACTS: a text of 1 to 8 WORDS,");
        refusesFacts("|", 0);
        refusesFacts(" \n|", 0);
        for (int n = 1; n <= 8; n++) {
            S.due(n + " FACTS", Tape.facts(new ClauseBench(), "a b c d e f g h".substring(0, 2 * n - 1)), n);
        }
        refusesFacts("a b c d e f g h |i", 6);
        of("unlike, told once,");
        refusesFacts("a |a", 2);
        refusesFacts("a b c d e f g |a", 2);
        S.due("unlike in the last letter", Tape.facts(new ClauseBench(), "abcdefghijkl abcdefghijkm"), 2);
        S.due("unlike in length", Tape.facts(new ClauseBench(), "a aa"), 2);
        ClauseBench x = bench();
        S.due("told again", Tape.facts(x, "d e"), -1);
        S.due("those told first", x.count(0), 3);
        of("ahead of all versions.");
        ClauseBench y = new ClauseBench();
        S.due("a VERSION ahead of them", Tape.version(y, 0, "p: ban x to y"), -1);
        S.due("FACTS", Tape.facts(y, "a"), 1);
        S.due("a VERSION behind them", Tape.version(y, 0, "p: ban x to y"), 1);
    }

    private static void cases() {
        of("A CASE is a number: bit k is whether FACT k is so (of n FACTS 0 to 2^n - 1).");
        String[] eight = "ff fg fh fi fj fk fl fm".split(" ");
        StringBuilder facts = new StringBuilder();
        StringBuilder text = new StringBuilder();
        for (int n = 1; n <= 8; n++) {
            facts.append(eight[n - 1]).append(' ');
            text.append(n > 1 ? "; " : "").append("define n").append(eight[n - 1]).append(" as ").append(eight[n - 1]);
            ClauseBench x = new ClauseBench();
            Tape.facts(x, facts.toString());
            Tape.version(x, 0, text.toString());
            S.due("CASES", x.count(3), 1 << n);
            for (int k = 0; k < n; k++) {
                S.due("none is so", x.holds(0, k, 0), 0);
                S.due("FACT " + k + " alone", x.holds(0, k, 1 << k), 1);
                S.due("all but FACT " + k, x.holds(0, k, (1 << n) - 1 - (1 << k)), 0);
                S.due("all are so", x.holds(0, k, (1 << n) - 1), 1);
            }
            S.due("beyond the last CASE", x.holds(0, 0, 1 << n), -1);
            S.due("ahead of the first CASE", x.holds(0, 0, -1), -1);
        }
    }

    private static void versions() {
        of("A VERSION: CLAUSE { ; CLAUSE }, 24 at most.");
        refuses("|", 0);
        reads("p: ban x to y", 1);
        for (int n = 1; n <= 24; n++) {
            reads(bans(n), n);
        }
        refuses(bans(24) + "; |pz: ban x to y", 4);
        refuses("p: ban x to y;|", 0);
        refuses("p: ban x to y;|;q: ban x to y", 0);
        refuses("|;p: ban x to y", 0);
        refuses("p: ban x to y |q: ban x to y", 0);
    }

    /** Each beginning of a CLAUSE, word by word, wants more. */
    private static void wantsMore(String clause) {
        String[] parts = clause.split(" ");
        StringBuilder begun = new StringBuilder();
        for (int k = 0; k < parts.length - 1; k++) {
            begun.append(k > 0 ? " " : "").append(parts[k]);
            refuses(begun + "|", 0);
            refuses(begun + " |;", 0);
        }
        reads(clause, 1);
    }

    private static void clauses() {
        of("CLAUSE: define NAME as COND");
        wantsMore("define n as a");
        refuses("define |: n as a", 0);
        refuses("define n |: as a", 0);
        refuses("define n |a", 0);
        refuses("define n as a |over p", 0);
        refuses("define n as a |if b", 0);
        of("LABEL : duty PARTY to ACT by NUMBER DAYS TAIL");
        wantsMore("p : duty x to y by 5 days");
        refuses("p |duty x to y by 5 days", 0);
        refuses("p : duty x |y by 5 days", 0);
        refuses("p : duty x to y |5 days", 0);
        refuses("p : duty x to y by |five days", 0);
        refuses("p : |deed x to y by 5 days", 0);
        of("(DAYS: days | workdays; NUMBER 0 to 365)");
        reads("p: duty x to y by 0 days", 1);
        reads("p: duty x to y by 365 workdays", 1);
        refuses("p: duty x to y by |366 days", 1);
        refuses("p: duty x to y by |999 workdays", 1);
        refuses("p: duty x to y by 5 |day", 0);
        refuses("p: duty x to y by 5 |weekdays", 0);
        of("LABEL : right PARTY to ACT TAIL");
        wantsMore("p : right x to y");
        refuses("p : right x to y |by 5 days", 0);
        of("LABEL : ban PARTY to ACT TAIL");
        wantsMore("p : ban x to y");
        refuses("p : ban x to y |by 5 days", 0);
    }

    private static void tails() {
        of("TAIL: [if COND] [unless COND] [over LABEL { and LABEL }]");
        String[] kinds = {"duty x to y by 5 days", "right x to y", "ban x to y"};
        for (String kind : kinds) {
            String start = "k: ban x to y; l: ban x to y; p: " + kind;
            for (int some = 0; some < 8; some++) {
                reads(start + ((some & 1) > 0 ? " if a" : "") + ((some & 2) > 0 ? " unless b" : "")
                        + ((some & 4) > 0 ? " over k" : ""), 3);
            }
            reads(start + " over k and l and k", 3);
            refuses(start + " unless a |if b", 0);
            refuses(start + " over k |if b", 0);
            refuses(start + " over k |unless b", 0);
            refuses(start + " if a |if b", 0);
            refuses(start + " unless a |unless b", 0);
            refuses(start + " over k |over l", 0);
            refuses(start + " over k |or l", 0);
            refuses(start + " over k |l", 0);
            refuses(start + " over k and|", 0);
            refuses(start + " over|", 0);
            refuses(start + " if|", 0);
            refuses(start + " unless|", 0);
            refuses(start + " if |unless a", 0);
            refuses(start + " |and a", 0);
        }
    }

    private static void conds() {
        of("COND: ALL { or ALL }; ALL: ONE { and ONE };");
        S.due("and ahead of or", table("define n as a or b and c"), "01010111");
        S.due("and ahead of or", table("define n as a and b or c"), "00011111");
        S.due("three", table("define n as a or b or c"), "01111111");
        S.due("three", table("define n as a and b and c"), "00000001");
        S.due("two ALLS", table("define n as a and b or b and c"), "00010011");
        refuses("define n as |and a", 0);
        refuses("define n as a or|", 0);
        refuses("define n as a and |or b", 0);
        refuses("define n as a |b", 0);
        of("ONE: not ONE, ( COND ), a FACT,");
        S.due("a FACT", table("define n as b"), "00110011");
        S.due("not", table("define n as not b"), "11001100");
        S.due("not not", table("define n as not not b"), "00110011");
        S.due("not ahead of and", table("define n as not a and b"), "00100010");
        S.due("not ahead of or", table("define n as not a or b"), "10111011");
        S.due("not ( COND )", table("define n as not (a or b)"), "10001000");
        S.due("( COND )", table("define n as (a or b) and c"), "00000111");
        S.due("( COND ) behind", table("define n as c and (a or b)"), "00000111");
        S.due("side by side", table("define n as (a or b) and (c)"), "00000111");
        S.due("side by side", table("define n as (a) and (b) or (c)"), "00011111");
        S.due("side by side within another", table("define n as ((a or b) and (b or c)) and (a)"), "00010101");
        S.due("side by side of two CONDS", table("define m as (a or b); define n as (c)"), "00001111");
        S.due("within one another", table("define n as not (a and not (b or not (c)))"), "11111011");
        refuses("define n as (|)", 0);
        refuses("define n as (a|", 0);
        refuses("define n as a|)", 0);
        refuses("define n as (a)|)", 0);
        refuses("define n as not|", 0);
        refuses("define n as a |not b", 0);
        refuses("define n as a |(b)", 0);
        refuses("define n as |1", 0);
        of("a NAME defined ahead in this VERSION.");
        S.due("a NAME", table("define m as a and b; define n as not m or c"), "11101111");
        S.due("not the latest NAME", table("define m as a; define o as b; define n as m and not o"), "01000100");
        S.due("two NAMES", table("define m as a or b; define o as c; p: ban x to y if o unless m"), "00001000");
        refuses("define n as |n", 3);
        refuses("p: ban x to y if |n; define n as a", 3);
        ClauseBench x = bench();
        Tape.version(x, 0, "define n as a");
        S.due("a NAME of another VERSION", Tape.version(x, 1, "p: ban x to y if n"), Tape.fault(17, 3));
        S.due("a NAME of what it was", Tape.version(x, 0, "p: ban x to y if n"), Tape.fault(17, 3));
    }

    private static void names() {
        of("NAME, LABEL, PARTY, ACT: WORDS that are none of the language's (define, as, duty, right, ban, to, by, days, "
                + "workdays, if, unless, over, and, or, not, strike, replace, add);");
        for (String word : OURS) {
            refuses("define |" + word + " as a", 2);
            refuses("p: ban |" + word + " to y", 2);
            refuses("p: ban x to |" + word, 2);
            if (!word.equals("define")) {
                refuses("|" + word + ": ban x to y", 2);
            }
            String like = word + "s";
            reads("define n" + like + " as a; z" + like + ": ban z" + like + " to z" + like, 2);
        }
        refuses("define|: ban x to y", 0);
        reads("day: ban workday to unles; define strik as a", 2);
        reads("a: ban b to c; define x as a; y: ban a to y", 3);
        of("a NAME is no FACT, and defined once;");
        refuses("define |c as a", 2);
        refuses("define n as a; define |n as a", 2);
        refuses("define n as a; p: ban x to y; define |n as b", 2);
        reads("define n as a; define nn as a", 2);
    }

    private static void labels() {
        of("a LABEL is told once;");
        refuses("p: ban x to y; |p: ban x to y", 2);
        refuses("p: ban x to y; q: ban x to y; |p: duty x to y by 5 days", 2);
        reads("p: ban x to y; pp: ban x to y", 2);
        reads("a: ban x to y; b: ban x to y", 2);
        of("those behind over are told ahead;");
        reads("p: ban x to y; q: ban x to y over p", 2);
        refuses("p: ban x to y over |q; q: ban x to y", 3);
        refuses("p: ban x to y over |p", 3);
        ClauseBench x = bench();
        Tape.version(x, 0, "p: ban x to y");
        S.due("a LABEL of another VERSION", Tape.version(x, 1, "q: ban x to y over p"), Tape.fault(19, 3));
        of("NAMES and LABELS may be alike.");
        reads("define p as a; p: ban x to y if p", 2);
        reads("p: ban x to y; define p as a; q: ban x to y if p over p", 3);
    }

    private static void parties() {
        of("PARTIES 6, ACTS 12 at most of all VERSIONS together,");
        ClauseBench x = bench();
        S.due("6 PARTIES", Tape.version(x, 0, "p: ban ua to va; q: ban ub to vb; r: ban uc to vc; s: ban ud to vd; "
                + "t: ban ue to ve; u: ban uf to vf"), 6);
        S.due("6 PARTIES", x.count(1), 6);
        S.due("the 7th of all VERSIONS", Tape.version(x, 1, "p: ban ug to va"), Tape.fault(7, 5));
        S.due("12 ACTS", Tape.version(x, 1, "p: ban ua to vg; q: ban ub to vh; r: ban uc to vi; s: ban ud to vj; "
                + "t: ban ue to vk; u: ban uf to vl"), 6);
        S.due("12 ACTS", x.count(2), 12);
        S.due("the 13th of all VERSIONS", Tape.version(x, 2, "p: ban ua to vm"), Tape.fault(13, 5));
        S.due("those that are there", Tape.version(x, 2, "p: ban uf to vl; q: ban ua to va"), 2);
        of("by numbers as they come");
        ClauseBench y = bench();
        Tape.version(y, 3, "p: ban z to w; q: right y to x; r: duty z to x by 5 days; s: ban x to z");
        int[] wantParties = {0, 1, 0, 2};
        int[] wantActs = {0, 1, 1, 2};
        for (int k = 0; k < 4; k++) {
            S.due("PARTY of " + k, y.clause(3, k, 1), wantParties[k]);
            S.due("ACT of " + k, y.clause(3, k, 2), wantActs[k]);
        }
        Tape.version(y, 0, "p: ban new to other; q: ban x to w");
        S.due("a PARTY of a later VERSION", y.clause(0, 0, 1), 3);
        S.due("an ACT of a later VERSION", y.clause(0, 0, 2), 3);
        S.due("a PARTY that came", y.clause(0, 1, 1), 2);
        S.due("an ACT that came", y.clause(0, 1, 2), 0);
        of("(those of a text that is refused don't come).");
        ClauseBench z = bench();
        S.due("refused behind its last WORD", Tape.version(z, 0, "p: ban ua to va; q: ban ub to vb;"), Tape.fault(33, 0));
        S.due("no PARTIES", z.count(1), 0);
        S.due("no ACTS", z.count(2), 0);
        S.due("refused for the 7th PARTY", Tape.version(z, 0, "p: ban ua to va; q: ban ub to vb; r: ban uc to vc; "
                + "s: ban ud to vd; t: ban ue to ve; u: ban uf to vf; v: ban ug to vg"), Tape.fault(109, 5));
        S.due("no PARTIES", z.count(1), 0);
        Tape.version(z, 0, "p: ban ub to vb");
        S.due("the first that came", z.clause(0, 0, 1), 0);
        S.due("a RIDER is refused", Tape.rider(z, 0, 1, "add q: ban ua to va over zz"), -2);
        S.due("one PARTY", z.count(1), 1);
        S.due("one ACT", z.count(2), 1);
    }

    private static void limits() {
        of("At most 60 WORDS of a COND are FACTS or NAMES;");
        String sixty = repeated("a", " or ", 60);
        reads("define n as " + sixty, 1);
        refuses("define n as " + sixty + " and |b", 6);
        reads("p: ban x to y if " + sixty + " unless " + sixty, 1);
        refuses("p: ban x to y if a unless " + sixty + " or |a", 6);
        refuses("p: ban x to y if " + sixty + " or |a unless a", 6);
        reads("define n as " + sixty + "; p: ban x to y if " + repeated("n", " or ", 60), 2);
        refuses("define n as a; p: ban x to y if " + repeated("(n)", " or ", 30) + " or " + repeated("a", " or ", 30)
                + " or |n", 6);
        S.due("a WORLD of 60", Tape.world(bench(), sixty), 4);
        S.due("a WORLD of 61", Tape.world(bench(), sixty + " or a"), Tape.fault(sixty.length() + 4, 6));
        of("( and not within one another are 10 at most.");
        reads("define n as " + "(".repeat(10) + "a" + ")".repeat(10), 1);
        reads("define n as " + "not ".repeat(10) + "a", 1);
        reads("define n as " + "not (".repeat(5) + "a" + ")".repeat(5), 1);
        reads("define n as " + "not ".repeat(10) + "a and " + "not ".repeat(10) + "b", 1);
        reads("define n as " + "(".repeat(10) + "a" + ")".repeat(10) + " or " + "(".repeat(10) + "a" + ")".repeat(10), 1);
        reads("define n as " + "(not a or ".repeat(9) + "not a" + ")".repeat(9), 1);
        refuses("define n as " + "(not a or ".repeat(9) + "(|not a" + ")".repeat(10), 6);
        refuses("define n as " + "(".repeat(10) + "|(a" + ")".repeat(11), 6);
        refuses("define n as " + "not ".repeat(10) + "|not a", 6);
        refuses("define n as " + "not (".repeat(5) + "|not a" + ")".repeat(5), 6);
        reads("define m as " + "not ".repeat(10) + "a; define n as " + "not ".repeat(10) + "m", 2);
    }

    private static void faults() {
        of("FAULTS, the first along the text, 1 + its place * 8 and:");
        S.due("at place 0", Tape.version(bench(), 0, ";"), -2 - 1);
        S.due("at place 1", Tape.version(bench(), 0, " ;"), -2 - 9);
        S.due("at place 899", Tape.version(bench(), 0, " ".repeat(899) + ";"), -2 - (1 + 899 * 8));
        S.due("at place 900", Tape.version(bench(), 0, " ".repeat(900)), -2 - (1 + 900 * 8));
        S.due("of kind 2 at place 0", Tape.version(bench(), 0, "if"), -2 - 3);
        refuses("p: ban |if to " + LONG, 2);
        refuses("p: ban x |tu y; p", 0);
        refuses("p: ban x to y if |z over q", 3);
        refuses("p: duty x to y by |366 weeks", 1);
        ClauseBench x = bench();
        S.due("a FAULT at its second WORD", Tape.version(x, 0, "p " + LONG + " 5 5 5"), Tape.fault(2, 1));
        S.due("of the text ahead nothing is left", Tape.version(x, 0, "p"), Tape.fault(1, 0));
        S.due("of the text ahead nothing is left", Tape.version(x, 0, "p:ban x to y"), 1);
    }

    private static void misplaced() {
        of("0 a byte,");
        refuses("p: ban x to y |!", 0);
        refuses("p: ban |\u00ffx to y", 0);
        refuses("p|; ban x to y", 0);
        refuses("p: ban x to y if a|:", 0);
        of("WORD or NUMBER that can't stand there,");
        refuses("p: |rule x to y", 0);
        refuses("p: ban x |over y", 0);
        refuses("p: ban x to y |z", 0);
        refuses("|5: ban x to y", 0);
        refuses("p: ban |5 to y", 0);
        refuses("p: ban x to y |5", 0);
        refuses("p: ban x to y |365", 0);
        refuses("p: ban x to y if |if", 0);
        of("or the end (behind the last byte);");
        refuses("|", 0);
        refuses("   |", 0);
        refuses("p|", 0);
        refuses("p \n |", 0);
        refuses("p: ban x to y if (a |", 0);
        refuses("p: duty x to y by 5|", 0);
    }

    private static void tooLong() {
        String[] starts = {"", "p", "p: ", "p: ban ", "p: ban x ", "p: ban x to ", "p: ban x to y ", "define ",
            "define n ", "define n as ", "define n as a ", "define n as not ", "define n as (", "define n as (a ",
            "p: ban x to y if ", "p: ban x to y unless ", "p: ban x to y over ", "p: duty x to y ", "p: duty x to y by ",
            "p: duty x to y by 5 ", "p: duty x to y by 5 days ", "p: ban x to y; "};
        of("1 a WORD that is too long,");
        for (String start : starts) {
            refuses(start + (start.equals("p") ? " |" : "|") + LONG, 1);
        }
        refuses("p: ban x to y; q: ban x to y over p and |" + LONG, 1);
        of("a NUMBER of more digits (wherever it stands),");
        for (String start : starts) {
            refuses(start + "|0005", 1);
            refuses(start + "|1000", 1);
        }
        of("or above 365;");
        refuses("p: duty x to y by |366 days", 1);
        refuses("p: duty x to y by |999 days", 1);
        reads("p: duty x to y by 365 days", 1);
    }

    private static void taken() {
        of("2 a NAME or LABEL told twice,");
        refuses("define n as a; define |n as a", 2);
        refuses("p: ban x to y; |p: right x to y", 2);
        of("a NAME that is a FACT,");
        refuses("define |a as b", 2);
        refuses("define |c as c", 2);
        of("a WORD of the language in the place of a NAME behind define, a LABEL, PARTY or ACT;");
        refuses("define |as as a", 2);
        refuses("|strike p", 2);
        refuses("p: duty |to to y by 5 days", 2);
        refuses("p: right x to |by", 2);
        refuses("p: ban x to y; |and: ban x to y", 2);
        for (String word : OURS) {
            refuses("p: ban x to y; q: ban x to y over |" + word, 2);
        }
    }

    private static void unknown() {
        of("3 a WORD where a FACT or NAME must be (that is not of the language),");
        refuses("define n as |z", 3);
        refuses("p: ban x to y if a and |z", 3);
        refuses("p: ban x to y unless not (|z)", 3);
        refuses("p: ban x to y; q: ban x to y if |p", 3);
        for (String word : OURS) {
            if (!word.equals("not")) {
                refuses("define n as |" + word, 0);
            }
        }
        of("or a LABEL behind over, that is none told ahead;");
        refuses("p: ban x to y over |z", 3);
        refuses("define n as a; p: ban x to y over |n", 3);
        refuses("p: ban x to y; q: ban x to y over p and |a", 3);
        refuses("p: ban x to y; q: ban x to y over |x", 3);
    }

    private static void tooMany() {
        of("4 the 25th CLAUSE (at its first WORD);");
        refuses(bans(24) + "; |p: ban x to y", 4);
        refuses(bans(24) + "; |define n as a", 4);
        refuses(bans(24) + "; |p", 4);
        refuses(bans(24) + "; |define", 4);
        refuses(bans(24) + ";|", 0);
        reads(bans(23) + "; define n as a", 24);
        of("5 the 7th PARTY, the 13th ACT;");
        refuses("p: ban ua to y; q: ban ub to y; r: ban uc to y; s: ban ud to y; t: ban ue to y; u: ban uf to y; "
                + "v: ban |ug to y", 5);
        String twelve = "";
        for (char act = 'a'; act < 'm'; act++) {
            twelve += "p" + act + ": ban x to v" + act + "; ";
        }
        refuses(twelve + "q: ban x to |vm", 5);
        reads(twelve + "q: ban x to vl", 13);
        of("6 too many of a COND,");
        refuses("define n as " + repeated("a", " and ", 60) + " and |a", 6);
        refuses("define n as " + repeated("a", " and ", 60) + " and not (|a)", 6);
        of("the 11th ( or not (at it).");
        refuses("define n as " + "(".repeat(10) + "|(", 6);
        refuses("define n as " + "(".repeat(10) + "|not", 6);
        refuses("define n as " + "not ".repeat(10) + "|(", 6);
        refuses("define n as " + "not ".repeat(10) + "|not z", 6);
    }

    private static void leastNumber() {
        of("Of one WORD the least number,");
        refuses(bans(24) + "; |pa: ban x to y", 2);
        refuses(bans(24) + "; |if: ban x to y", 2);
        refuses(bans(24) + "; |5", 0);
        refuses("define n as " + repeated("a", " or ", 60) + " or |z", 3);
        refuses("define n as " + repeated("a", " or ", 60) + " or |if", 0);
        String six = "p: ban ua to y; q: ban ub to y; r: ban uc to y; s: ban ud to y; t: ban ue to y; u: ban uf to y; ";
        refuses(six + "v: ban |over to y", 2);
        refuses(six + "v: ban |5 to y", 0);
        refusesFacts("a b c d e f g h |h", 2);
        refusesFacts("a b c d e f g h |if", 2);
        refusesFacts("a b c d e f g h |5", 0);
        refuses("p: ban x to y over |over", 2);
        of("but 1 ahead of all.");
        refuses(bans(24) + "; |" + LONG + ": ban x to y", 1);
        refuses(bans(24) + "; |0000", 1);
        refuses("define n as " + repeated("a", " or ", 60) + " or |" + LONG, 1);
        refuses("define n as " + "not ".repeat(10) + "|" + LONG, 1);
        refuses(six + "v: ban |" + LONG + " to y", 1);
        refusesFacts("a b c d e f g h |" + LONG, 1);
        refusesFacts("|" + LONG + " " + LONG, 1);
        refuses("p: ban x to y |" + LONG, 1);
    }
}
