/** Promises 1 to 3 and 9 to 11: a new object, the TAPE, OUT. */
public final class TapeTest {
    private static final Tape T = new Tape();

    public static void main(String[] args) {
        newObject();
        feed();
        end();
        write();
        back();
        longWriting();
        T.close("TapeTest");
    }

    private static void newObject() {
        ClauseBench x = new ClauseBench();
        T.due("NONE", ClauseBench.NONE, -1);
        for (int what = 0; what <= 7; what++) {
            T.due("count " + what + " of a new object", x.count(what), 0);
        }
        for (int v = -1; v <= 4; v++) {
            T.due("count of a VERSION of a new object", x.count(10 + v), -1);
            T.due("write", x.write(v), -1);
            T.due("clause", x.clause(v, 0, 0), -1);
            T.due("letter", x.letter(v, 0, 0), -1);
            T.due("holds", x.holds(v, 0, 0), -1);
            T.due("outcomes", x.outcomes(v, 0), -1);
            T.due("outcome", x.outcome(v, 0, 0, 0), -1);
            T.due("differs", x.differs(v, v), -2);
            T.due("changed", x.changed(v, v, 0, 0), -1);
            T.due("quarrel", x.quarrel(v), -2);
            T.due("gap", x.gap(v, 0), -2);
            T.due("due", x.due(v, 0, 0, 0), -1);
            T.due("version", Tape.version(x, v, "p: ban x to y"), -1);
            T.due("rider", Tape.rider(x, v, v, "add p: ban x to y"), -1);
        }
        T.due("world", Tape.world(x, ""), -1);
        T.due("takeOff", x.takeOff(), false);
        T.due("octet", x.octet(0), -1);
        T.due("back", x.back(), 0);
        T.due("PARTIES", x.count(1), 0);
    }

    private static void feed() {
        ClauseBench x = new ClauseBench();
        for (int k = 1; k <= 45; k++) {
            T.due("feed " + k, x.feed(k, -1, 0, Integer.MIN_VALUE, Integer.MAX_VALUE), 20 * k);
        }
        T.due("a full TAPE", x.feed(0, 0, 0, 0, 0), -1);
        T.due("its bytes", x.count(5), 900);
        T.due("end", x.end(881), 881);
        T.due("19 bytes of room", x.feed(0, 0, 0, 0, 0), -1);
        T.due("its bytes", x.count(5), 881);
        T.due("end", x.end(880), 880);
        T.due("20 bytes of room", x.feed(0, 0, 0, 0, 0), 900);

        // "abcd efgh ijkl mnop q": the highest byte of each number comes first.
        ClauseBench y = new ClauseBench();
        y.feed(0x61626364, 0x20656667, 0x6820696a, 0x6b6c206d, 0x6e6f7020);
        T.due("FACTS", y.facts(), 4);
        Tape.version(y, 0, "p: ban x to y if abcd and efgh and not ijkl or mnop");
        T.due("a letter behind another", y.holds(0, 0, 3), 1);
    }

    private static void end() {
        ClauseBench x = new ClauseBench();
        T.due("end of none", x.end(0), 0);
        T.due("end beyond", x.end(1), -1);
        x.feed(0x61206220, 0x63206420, 0, 0, 0);
        T.due("end below 0", x.end(-1), -1);
        T.due("end beyond", x.end(21), -1);
        T.due("nothing happens", x.count(5), 20);
        T.due("end of all", x.end(20), 20);
        T.due("end", x.end(3), 3);
        T.due("its bytes", x.count(5), 3);
        T.due("end again", x.end(8), -1);
        T.due("the first bytes stay", x.facts(), 2);
    }

    private static void write() {
        ClauseBench x = new ClauseBench();
        Tape.facts(x, "a b c");
        String told = "define\nlate as(a and((b)))or not not( c);p :duty x to y by007days if late"
                + "\nunless(not c)or b;q:right x to y by;";
        T.due("a right has no by", Tape.version(x, 0, told), Tape.fault(told.indexOf("by;"), 0));
        Tape.version(x, 0, told.replace(" by;", "; r: ban z to y over p and q and p;s:duty z to w by 000workdays"));
        T.due("WRITTEN", Tape.written(x, 0), "define late as (a and ((b))) or not not (c); "
                + "p: duty x to y by 7 days if late unless (not c) or b; q: right x to y; "
                + "r: ban z to y over p and q and p; s: duty z to w by 0 workdays");
        Tape.version(x, 1, "p: duty x to y by 365 days; q: duty x to y by 010 days");
        T.due("NUMBERS", Tape.written(x, 1), "p: duty x to y by 365 days; q: duty x to y by 10 days");
        int length = x.count(6);
        Tape.version(x, 2, "p: duty x to y by 100 days; q: duty x to y by 99 days; r: duty x to y by 9 days");
        T.due("NUMBERS", Tape.written(x, 2), "p: duty x to y by 100 days; q: duty x to y by 99 days; "
                + "r: duty x to y by 9 days");
        x.write(1);
        T.due("bytes of OUT", length, 53);
        T.due("write without", x.write(3), -1);
        T.due("write without", x.write(4), -1);
        T.due("write without", x.write(-1), -1);
        T.due("OUT stays", x.count(6), length);
        T.due("octet", x.octet(0), 'p');
        T.due("octet", x.octet(length - 1), 's');
        T.due("octet behind", x.octet(length), -1);
        T.due("octet ahead", x.octet(-1), -1);
        T.due("octet far", x.octet(Integer.MAX_VALUE), -1);
        T.due("octet far", x.octet(Integer.MIN_VALUE), -1);
    }

    private static void back() {
        ClauseBench x = new ClauseBench();
        Tape.facts(x, "a");
        Tape.version(x, 0, "p:ban x to y");
        Tape.put(x, "add q: ban x to z; replace ");
        x.write(0);
        T.due("back", x.back(), 27 + 13);
        T.due("OUT is empty", x.count(6), 0);
        T.due("octet of none", x.octet(0), -1);
        T.due("back of none", x.back(), 40);
        T.due("the RIDER", x.rider(0, 1), 2);
        for (int k = 0; k < 44; k++) {
            x.feed(0x20202020, 0x20202020, 0x20202020, 0x20202020, 0x20202020);
        }
        x.write(0);
        x.feed(0x20202020, 0x20202020, 0x20202020, 0x20202020, 0x20202020);
        T.due("end", x.end(888), 888);
        T.due("back of too many", x.back(), -1);
        T.due("nothing happens", x.count(5), 888);
        T.due("nothing happens", x.count(6), 13);
        T.due("end", x.end(887), 887);
        T.due("back of just as many", x.back(), 900);
        T.due("what came", x.version(2), 1);
    }

    /** WRITTEN has more bytes than were told: a VERSION may, what comes of a RIDER may not. */
    private static void longWriting() {
        ClauseBench x = new ClauseBench();
        Tape.facts(x, "a");
        StringBuilder told = new StringBuilder("p:ban x to y if(a)");
        for (int k = 1; k < 24; k++) {
            told.append(";z").append((char) ('a' + k))
                    .append(":duty x to y by0days if(a)or(a)");
        }
        T.due("a long VERSION", told.length() <= 900 ? Tape.version(x, 0, told.toString()) : 0, 24);
        int written = x.write(0);
        T.due("is WRITTEN with more", written > 900, true);
        T.due("in OUT", x.count(6), written);
        T.due("its last byte", x.octet(written - 1), ')');
        T.due("can't come back", x.back(), -1);
        T.due("a RIDER leaves too many", Tape.rider(x, 0, 1, "replace p: ban x to y"), -2);
        T.due("a RIDER leaves fewer", Tape.rider(x, 0, 1, "strike p; strike zb; strike zc; strike zd; strike ze"), 19);
    }
}
