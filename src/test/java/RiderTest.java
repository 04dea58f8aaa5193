/** Promises 6 and 7: RIDERS put on and taken off. */
public final class RiderTest {
    private static final Tape T = new Tape();
    private static final String BASE =
            "define late as a and b; p: duty x to y by 5 days if late; r: right x to z; s: ban x to y over p";

    public static void main(String[] args) {
        changes();
        order();
        faults();
        refusedWhole();
        wrongArguments();
        takeOff();
        forgotten();
        T.close("RiderTest");
    }

    private static ClauseBench bench() {
        ClauseBench x = new ClauseBench();
        Tape.facts(x, "a b c");
        Tape.version(x, 0, BASE);
        return x;
    }

    private static void comes(String rider, String written) {
        ClauseBench x = bench();
        int clauses = written.split(";").length;
        T.due(rider, Tape.rider(x, 0, 2, rider), clauses);
        T.due(rider, Tape.written(x, 2), written);
        T.due(rider + ": VERSION v stays", Tape.written(x, 0), BASE);
        T.due(rider + ": is on", x.count(4), 1);
        T.due(rider + ": the TAPE is empty", x.count(5), 0);
        T.due(rider + ": on itself", Tape.rider(x, 0, 0, rider), clauses);
        T.due(rider + ": on itself", Tape.written(x, 0), written);
    }

    private static void refused(String marked, int kind) {
        int place = marked.indexOf('#');
        refusedWith(marked.substring(0, place) + marked.substring(place + 1), Tape.fault(place, kind));
    }

    private static void refusedWith(String rider, int answer) {
        ClauseBench x = bench();
        T.due(rider, Tape.rider(x, 0, 1, rider), answer);
        T.due(rider + ": none comes", x.count(11), -1);
        T.due(rider + ": VERSION v stays", Tape.written(x, 0), BASE);
        T.due(rider + ": none is on", x.count(4), 0);
        T.due(rider + ": the TAPE is empty", x.count(5), 0);
        T.due(rider + ": no PARTIES come", x.count(1), 1);
        T.due(rider + ": no ACTS come", x.count(2), 2);
    }

    private static void changes() {
        comes("strike r", "define late as a and b; p: duty x to y by 5 days if late; s: ban x to y over p");
        comes("replace p:duty w to y by 007workdays", "define late as a and b; p: duty w to y by 7 workdays; "
                + "r: right x to z; s: ban x to y over p");
        comes("replace define late as (c)", "define late as (c); p: duty x to y by 5 days if late; "
                + "r: right x to z; s: ban x to y over p");
        comes("add t: ban x to y if late over p and s", BASE + "; t: ban x to y if late over p and s");
        comes("add define p as late", BASE + "; define p as late");
        comes("add late: ban x to y", BASE + "; late: ban x to y");
        comes("replace p: ban x to y if c; strike r", "define late as a and b; p: ban x to y if c; s: ban x to y over p");
    }

    private static void order() {
        comes("strike s; strike p; add p: ban x to y", "define late as a and b; r: right x to z; p: ban x to y");
        comes("add t: ban x to y; strike t", BASE);
        comes("add t: ban x to y; replace t: ban x to z", BASE + "; t: ban x to z");
        comes("add t: ban x to y if soon; replace define late as b; strike t; add define soon as late",
                "define late as b; p: duty x to y by 5 days if late; r: right x to z; s: ban x to y over p; "
                        + "define soon as late");
        comes("strike p; replace s: ban x to y", "define late as a and b; r: right x to z; s: ban x to y");
        comes("add r: ban x to z; strike r",
                "define late as a and b; p: duty x to y by 5 days if late; s: ban x to y over p; r: ban x to z");
        comes("strike r; add r: right x to z; strike r; add r: right x to z; strike r; add r: right x to z; "
                + "strike r; add r: right x to z; strike r; add r: right x to z; strike r; add r: ban x to z",
                "define late as a and b; p: duty x to y by 5 days if late; s: ban x to y over p; r: ban x to z");
    }

    private static void faults() {
        refused("#", 0);
        refused(" \n#", 0);
        refused("#drop p", 0);
        refused("#p: ban x to y", 0);
        refused("#define n as a", 0);
        refused("#; strike p", 0);
        refused("#5", 0);
        refused("#abcdefghijklm", 1);
        refused("strike#", 0);
        refused("strike #;", 0);
        refused("strike #5", 0);
        refused("strike #5000", 1);
        refused("strike #if", 2);
        refused("strike #define late", 2);
        refused("strike #abcdefghijklm", 1);
        refused("strike #q", 3);
        refused("strike #late", 3);
        refused("strike r; strike #r", 3);
        refused("strike r;#", 0);
        refused("strike r #s", 0);
        refused("strike r #and s", 0);
        refused("strike r#: ban x to y", 0);
        refused("replace #q: ban x to y", 3);
        refused("replace #late: ban x to y", 3);
        refused("replace define #p as a", 3);
        refused("replace define #later as a", 3);
        refused("replace define #a as a", 3);
        refused("replace define #if as a", 2);
        refused("replace #if: ban x to y", 2);
        refused("replace #strike p", 2);
        refused("replace#", 0);
        refused("replace p#", 0);
        refused("replace p: ban #if to y", 2);
        refused("strike s; replace #s: ban x to y", 3);
        refused("add#", 0);
        refused("add #add p: ban x to y", 2);
        refused("add t: ban x to #over", 2);
        refused("add t: ban x to y over #and", 2);
        refused("add t: ban x to y over #5", 0);
        refused("add t: ban x to y if #unless a", 0);
        refused("add t: ban x to y if zz #zz", 0);
        refused("add t: duty x to y by #366 days", 1);
        refused("add t: ban x to y if not not not not not not not not not not #not a", 6);
        StringBuilder sixty = new StringBuilder("add t: ban x to y if zz");
        for (int k = 1; k < 60; k++) {
            sixty.append(" or zz");
        }
        refused(sixty + " or #zz", 6);
        refusedWith(sixty.toString(), -2);
        StringBuilder twelve = new StringBuilder();
        for (int k = 0; k < 12; k++) {
            twelve.append("replace r: right x to z; ");
        }
        refused(twelve + "#strike r", 4);
        refused(twelve + "#add", 4);
        refused(twelve + "#drop r", 0);
        refused(twelve + "#if r", 0);
        refused(twelve + "#", 0);
        refused(twelve + "#abcdefghijklm", 1);
        comes(twelve.substring(0, twelve.length() - 2), BASE);
    }

    private static void refusedWhole() {
        refusedWith("add p: ban x to y", -2);
        refusedWith("add define late as a", -2);
        refusedWith("add define a as b", -2);
        refusedWith("add t: ban x to y if zz", -2);
        refusedWith("add t: ban x to y if t", -2);
        refusedWith("add t: ban x to y over zz", -2);
        refusedWith("add t: ban x to y over t", -2);
        refusedWith("strike p", -2);
        refusedWith("replace p: ban x to y over s", -2);
        refusedWith("replace define late as late", -2);
        refusedWith("add t: ban ta to y; add u: ban tb to y; add v: ban tc to y; add w: ban td to y; "
                + "add k: ban te to y; add l: ban tf to y", -2);
        ClauseBench x = new ClauseBench();
        Tape.facts(x, "a");
        Tape.version(x, 0, "p: ban x to y");
        T.due("no CLAUSE is left", Tape.rider(x, 0, 0, "strike p"), -2);
        T.due("VERSION w stays", x.count(10), 1);
        String eleven = "add b: ban x to y; add c: ban x to y; add d: ban x to y; add e: ban x to y; "
                + "add f: ban x to y; add g: ban x to y; add h: ban x to y; add i: ban x to y; "
                + "add j: ban x to y; add k: ban x to y; add l: ban x to y; ";
        T.due("13 CLAUSES", Tape.rider(x, 0, 0, eleven + "add m: ban x to y"), 13);
        String more = eleven.replace("add ", "add z");
        T.due("25 CLAUSES", Tape.rider(x, 0, 1, more + "add zm: ban x to y"), -2);
        T.due("25 CLAUSES less one", Tape.rider(x, 0, 1, "strike b; " + more.substring(0, more.length() - 2)), 23);
        T.due("24 CLAUSES", Tape.rider(x, 0, 1, more.substring(0, more.length() - 2)), 24);
        tooLongWritten();
    }

    private static void tooLongWritten() {
        ClauseBench x = new ClauseBench();
        Tape.facts(x, "a");
        StringBuilder told = new StringBuilder("p: ban x to y if a");
        for (int k = 1; k < 60; k++) {
            told.append(" and a");
        }
        told.append(" unless a");
        for (int k = 1; k < 60; k++) {
            told.append(" and a");
        }
        Tape.version(x, 0, told.toString());
        int length = x.write(0);
        StringBuilder rider = new StringBuilder("add q: ban x to yyyyyyyyyyyy if a");
        int room = 900 - length - 2 - (rider.length() - 4);
        while (room >= 6) {
            rider.append(" and a");
            room -= 6;
        }
        String fit = rider.toString().replace("yyyyyyyyyyyy", "yyyyyyyy".substring(0, 7))
                .replace("x to", "xxxxxxxxxxxx".substring(0, 6 + room) + " to");
        T.due("900 bytes WRITTEN", Tape.rider(x, 0, 1, fit), 2);
        T.due("900 bytes WRITTEN", x.write(1), 900);
        T.due("901 bytes WRITTEN", Tape.rider(x, 0, 1, fit.replace("add q", "add qq")), -2);
        T.due("it stays", x.write(1), 900);
        T.due("they come back", x.back(), 900);
    }

    private static void wrongArguments() {
        ClauseBench x = bench();
        T.due("without VERSION v", Tape.rider(x, 1, 0, "strike r"), -1);
        T.due("the TAPE is empty", x.count(5), 0);
        T.due("without VERSION v", Tape.rider(x, -1, 0, "strike r"), -1);
        T.due("without VERSION v", Tape.rider(x, 4, 0, "strike r"), -1);
        T.due("without such a w", Tape.rider(x, 0, -1, "strike r"), -1);
        T.due("without such a w", Tape.rider(x, 0, 4, "strike r"), -1);
        T.due("without such a w, with a FAULT", Tape.rider(x, 0, 4, "strike"), -1);
        T.due("none is on", x.count(4), 0);
    }

    private static void takeOff() {
        ClauseBench x = bench();
        T.due("none to take off", x.takeOff(), false);
        T.due("on", Tape.rider(x, 0, 1, "strike r"), 3);
        T.due("on", Tape.rider(x, 1, 1, "add t: ban w to y"), 4);
        T.due("on", Tape.rider(x, 1, 0, "strike t"), 3);
        T.due("a refused one is not on", Tape.rider(x, 1, 0, "strike zz"), Tape.fault(7, 3));
        T.due("how many", x.count(4), 3);
        T.due("the latest", x.takeOff(), true);
        T.due("what it was", Tape.written(x, 0), BASE);
        T.due("how many", x.count(4), 2);
        T.due("the one ahead of it", x.takeOff(), true);
        T.due("what it was", x.count(11), 3);
        T.due("PARTIES stay", x.count(1), 2);
        T.due("a refused VERSION leaves it", Tape.version(x, 1, "p"), Tape.fault(1, 0));
        T.due("the first", x.takeOff(), true);
        T.due("there was no VERSION", x.count(11), -1);
        T.due("there was no VERSION", x.write(1), -1);
        T.due("none to take off", x.takeOff(), false);
        T.due("how many", x.count(4), 0);
    }

    private static void forgotten() {
        ClauseBench x = bench();
        Tape.rider(x, 0, 1, "strike r");
        Tape.rider(x, 0, 2, "strike s");
        Tape.version(x, 2, "k: ban x to y");
        T.due("another is there", x.takeOff(), false);
        T.due("nothing else happens", Tape.written(x, 2), "k: ban x to y");
        T.due("it is forgotten", x.count(4), 1);
        T.due("the one ahead of it", x.takeOff(), true);
        T.due("how many", x.count(4), 0);

        Tape.rider(x, 0, 1, "strike r");
        Tape.rider(x, 0, 1, "strike s");
        T.due("the latest", x.takeOff(), true);
        T.due("then the one ahead is there again", x.takeOff(), true);
        T.due("there was no VERSION", x.count(11), -1);

        Tape.rider(x, 0, 1, "strike r");
        x.write(1);
        x.back();
        T.due("told anew", x.version(1), 3);
        T.due("the same text is another VERSION", x.takeOff(), false);
        T.due("nothing else happens", x.count(11), 3);
        T.due("how many", x.count(4), 0);

        Tape.version(x, 3, "k: ban x to y");
        Tape.rider(x, 3, 3, "add l: ban x to y");
        Tape.version(x, 3, "m: ban x to z");
        Tape.rider(x, 3, 3, "add l: ban x to y");
        T.due("the latest", x.takeOff(), true);
        T.due("what it was", Tape.written(x, 3), "m: ban x to z");
        T.due("the one ahead is gone", x.takeOff(), false);
        T.due("nothing else happens", Tape.written(x, 3), "m: ban x to z");
    }
}
