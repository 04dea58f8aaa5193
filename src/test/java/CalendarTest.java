/** Promises 22 and 23: FREE days, and by when a duty is to be done. */
public final class CalendarTest {
    private static final Tape T = new Tape();

    public static void main(String[] args) {
        free();
        days();
        workdays();
        lastDays();
        wrongArguments();
        T.close("CalendarTest");
    }

    private static void free() {
        ClauseBench x = new ClauseBench();
        int[] some = {0, 1, 63, 64, 127, 5, 6, 9998, 9999};
        for (int day : some) {
            T.due("not yet", x.free(day, false), false);
            T.due("is", x.free(day, true), true);
            T.due("is already", x.free(day, true), false);
        }
        T.due("how many", x.count(7), some.length);
        for (int k = 0; k < some.length; k++) {
            T.due("no more", x.free(some[k], false), true);
            T.due("no more already", x.free(some[k], false), false);
            T.due("how many", x.count(7), some.length - 1 - k);
        }
        int[] wrong = {-1, 10000, Integer.MIN_VALUE, Integer.MAX_VALUE};
        for (int day : wrong) {
            T.due("no such DAY", x.free(day, true), false);
            T.due("no such DAY", x.free(day, false), false);
        }
        T.due("how many", x.count(7), 0);
    }

    private static ClauseBench bench() {
        ClauseBench x = new ClauseBench();
        Tape.facts(x, "a b");
        Tape.version(x, 0, "p: duty x to y by 0 days; q: duty x to y by 0 workdays; r: duty x to y by 1 workdays; "
                + "s: duty x to y by 5 days; t: duty x to y by 5 workdays; u: duty x to y by 365 days; "
                + "v: duty x to y by 365 workdays; w: right x to y; z: ban x to y; k: duty x to y by 364 days if a");
        return x;
    }

    private static void days() {
        ClauseBench x = bench();
        x.free(10, true);
        T.due("0 days", x.due(0, 0, 0, 10), 10);
        T.due("5 days", x.due(0, 0, 3, 5), 10);
        T.due("365 days", x.due(0, 0, 5, 0), 365);
        T.due("365 days", x.due(0, 0, 5, 9634), 9999);
        T.due("beyond", x.due(0, 0, 5, 9635), -1);
        T.due("beyond", x.due(0, 0, 5, 9999), -1);
        T.due("of another CASE", x.due(0, 1, 5, 0), 364);
    }

    private static void workdays() {
        ClauseBench x = bench();
        for (int day = 0; day < 30; day++) {
            T.due("0 workdays", x.due(0, 0, 1, day), day);
        }
        T.due("behind a WORKDAY", x.due(0, 0, 2, 0), 1);
        T.due("behind the fourth", x.due(0, 0, 2, 3), 4);
        T.due("behind the fifth", x.due(0, 0, 2, 4), 7);
        T.due("behind the sixth", x.due(0, 0, 2, 5), 7);
        T.due("behind the seventh", x.due(0, 0, 2, 6), 7);
        T.due("5 workdays", x.due(0, 0, 4, 0), 7);
        T.due("365 workdays", x.due(0, 0, 6, 0), 511);
        x.free(7, true);
        x.free(5, true);
        T.due("a FREE day", x.due(0, 0, 2, 4), 8);
        T.due("a FREE day", x.due(0, 0, 4, 0), 8);
        T.due("365 workdays", x.due(0, 0, 6, 0), 512);
        T.due("from a FREE day", x.due(0, 0, 2, 7), 8);
        T.due("the FREE day itself", x.due(0, 0, 1, 7), 7);
        x.free(7, false);
        T.due("no more", x.due(0, 0, 2, 4), 7);
        T.due("the fifth of seven is none because it is FREE no more", x.free(5, false), true);
        T.due("no more", x.due(0, 0, 2, 4), 7);
    }

    private static void lastDays() {
        ClauseBench x = bench();
        T.due("the last DAY", x.due(0, 0, 2, 9998), 9999);
        T.due("beyond", x.due(0, 0, 2, 9999), -1);
        T.due("0 workdays", x.due(0, 0, 1, 9999), 9999);
        T.due("0 days", x.due(0, 0, 0, 9999), 9999);
        x.free(9999, true);
        T.due("the last is FREE", x.due(0, 0, 2, 9998), -1);
        T.due("365 workdays", x.due(0, 0, 6, 9999 - 364), -1);
    }

    private static void wrongArguments() {
        ClauseBench x = bench();
        T.due("in order", x.outcome(0, 0, 6, 3), 365);
        T.due("a right", x.due(0, 0, 7, 0), -1);
        T.due("a ban", x.due(0, 0, 8, 0), -1);
        T.due("no such OUTCOME", x.due(0, 0, 9, 0), -1);
        T.due("no such OUTCOME", x.due(0, 0, -1, 0), -1);
        T.due("no such DAY", x.due(0, 0, 0, -1), -1);
        T.due("no such DAY", x.due(0, 0, 0, 10000), -1);
        T.due("no such DAY", x.due(0, 0, 1, Integer.MAX_VALUE), -1);
        T.due("no such DAY", x.due(0, 0, 1, Integer.MIN_VALUE), -1);
        T.due("no such CASE", x.due(0, 4, 0, 0), -1);
        T.due("no such CASE", x.due(0, -1, 0, 0), -1);
        T.due("no such VERSION", x.due(1, 0, 0, 0), -1);
        T.due("no such VERSION", x.due(-1, 0, 0, 0), -1);
    }
}
