import java.util.ArrayList;
import java.util.Arrays;
import java.util.Collections;
import java.util.List;
import java.util.Random;
import java.util.TreeSet;

/**
 * All promises: seeded runs of calls, each answer held against that of a second program, which reads
 * by recursion into trees and works each CASE out by itself.
 */
public final class ModelTest {
    private static final List<String> OURS = Arrays.asList("define", "as", "duty", "right", "ban", "to", "by", "days",
            "workdays", "if", "unless", "over", "and", "or", "not", "strike", "replace", "add");

    public static void main(String[] args) {
        int runs = args.length > 0 ? Integer.parseInt(args[0]) : 3000;
        int wrong = 0;
        long calls = 0;
        int[] refusals = new int[8];
        int[] told = new int[4];
        for (int run = 0; run < runs && wrong == 0; run++) {
            Run one = new Run(run, refusals, told);
            wrong += one.go() ? 0 : 1;
            calls += one.calls;
        }
        System.out.println("ModelTest: " + calls + " calls, FAULTS by kind " + Arrays.toString(refusals)
                + ", FACTS, VERSIONS, RIDERS, WORLDS told " + Arrays.toString(told));
        for (int count : refusals) {
            wrong += runs >= 3000 && count == 0 ? 1 : 0;
        }
        System.out.println(wrong == 0 ? "ModelTest: all answers are as due" : "ModelTest: failed");
        if (wrong != 0) {
            System.exit(1);
        }
    }

    // ---- the second program

    private static final class Fault extends RuntimeException {
        private static final long serialVersionUID = 1L;
        final int number;

        Fault(int place, int kind) {
            super(null, null, false, false);
            number = 1 + place * 8 + kind;
        }
    }

    private static final class Token {
        final String text;
        final int place;

        Token(String text, int place) {
            this.text = text;
            this.place = place;
        }

        boolean word() {
            return !text.isEmpty() && text.charAt(0) >= 'a' && text.charAt(0) <= 'z';
        }

        boolean number() {
            return !text.isEmpty() && text.charAt(0) >= '0' && text.charAt(0) <= '9';
        }

        boolean ours() {
            return OURS.contains(text);
        }

        boolean overlong() {
            return word() && text.length() > 12 || number() && text.length() > 3;
        }

        Fault fault(int kind) {
            return new Fault(place, overlong() ? 1 : kind);
        }
    }

    private static List<Token> tokens(String text) {
        List<Token> all = new ArrayList<>();
        java.util.regex.Matcher m = java.util.regex.Pattern.compile("[a-z]+|[0-9]+|[^ \n]").matcher(text);
        while (m.find()) {
            all.add(new Token(m.group(), m.start()));
        }
        all.add(new Token("", text.length()));
        return all;
    }

    private interface Tree {
        boolean so(int which);
    }

    private static final class MClause {
        int kind;
        String name;
        String party;
        String act;
        int number;
        boolean work;
        Tree iff;
        Tree unless;
        final List<String> over = new ArrayList<>();
        String written;
    }

    private static final class MVersion {
        final List<MClause> clauses = new ArrayList<>();

        MClause find(String name, boolean define) {
            for (MClause c : clauses) {
                if (c.name.equals(name) && (c.kind == 0) == define) {
                    return c;
                }
            }
            return null;
        }

        boolean holds(MClause c, int which) {
            if (c.iff != null && !c.iff.so(which) || c.unless != null && c.unless.so(which)) {
                return false;
            }
            for (MClause d : clauses) {
                if (c.kind != 0 && d.over.contains(c.name) && holds(d, which)) {
                    return false;
                }
            }
            return true;
        }

        String written() {
            List<String> all = new ArrayList<>();
            for (MClause c : clauses) {
                all.add(c.written);
            }
            return String.join("; ", all);
        }
    }

    private static final class MRider {
        int w;
        MVersion before;
        MVersion after;
    }

    private static final class Model {
        String tape = "";
        String out = "";
        List<String> facts = new ArrayList<>();
        List<String> parties = new ArrayList<>();
        List<String> acts = new ArrayList<>();
        final MVersion[] versions = new MVersion[4];
        final List<MRider> riders = new ArrayList<>();
        Tree world;
        final TreeSet<Integer> free = new TreeSet<>();
        int duty = -1;
        int ban = -1;

        List<Token> list;
        int at;
        int operands;

        void start(String text) {
            list = tokens(text);
            at = 0;
        }

        Token look() {
            return list.get(at);
        }

        boolean is(String text) {
            return look().text.equals(text);
        }

        Token take() {
            return list.get(at++);
        }

        void want(String text) {
            if (!is(text)) {
                throw look().fault(0);
            }
            if (!text.isEmpty()) {
                at++;
            }
        }

        int tell() {
            String text = tape;
            tape = "";
            if (!facts.isEmpty()) {
                return -1;
            }
            List<String> now = new ArrayList<>();
            try {
                start(text);
                do {
                    Token t = look();
                    if (!t.word() || t.overlong()) {
                        throw t.fault(0);
                    }
                    if (t.ours() || now.contains(t.text)) {
                        throw t.fault(2);
                    }
                    if (now.size() == 8) {
                        throw t.fault(6);
                    }
                    now.add(t.text);
                    at++;
                } while (!is(""));
            } catch (Fault f) {
                return -2 - f.number;
            }
            facts = now;
            return now.size();
        }

        Tree any(MVersion names, boolean alone, int depth) {
            Tree left = all(names, alone, depth);
            while (is("or")) {
                at++;
                Tree one = left;
                Tree two = all(names, alone, depth);
                left = which -> one.so(which) || two.so(which);
            }
            return left;
        }

        Tree all(MVersion names, boolean alone, int depth) {
            Tree left = one(names, alone, depth);
            while (is("and")) {
                at++;
                Tree one = left;
                Tree two = one(names, alone, depth);
                left = which -> one.so(which) && two.so(which);
            }
            return left;
        }

        Tree one(MVersion names, boolean alone, int depth) {
            Token t = look();
            if (is("not") || is("(")) {
                if (depth == 10) {
                    throw t.fault(6);
                }
                at++;
                if (t.text.equals("not")) {
                    Tree one = one(names, alone, depth + 1);
                    return which -> !one.so(which);
                }
                Tree inner = any(names, alone, depth + 1);
                want(")");
                return inner;
            }
            if (!t.word() || t.ours() || t.overlong()) {
                throw t.fault(0);
            }
            int fact = facts.indexOf(t.text);
            MClause name = names == null ? null : names.find(t.text, true);
            if (!alone && fact < 0 && name == null) {
                throw t.fault(3);
            }
            if (++operands > 60) {
                throw t.fault(6);
            }
            at++;
            return fact >= 0 ? which -> (which >> fact & 1) == 1 : which -> name.iff.so(which);
        }

        Tree cond(MVersion names, boolean alone) {
            operands = 0;
            return any(names, alone, 0);
        }

        String place(List<String> numbered, int most) {
            Token t = look();
            if (!t.word() || t.overlong()) {
                throw t.fault(0);
            }
            if (t.ours()) {
                throw t.fault(2);
            }
            if (numbered != null && !numbered.contains(t.text)) {
                if (numbered.size() == most) {
                    throw t.fault(5);
                }
                numbered.add(t.text);
            }
            at++;
            return t.text;
        }

        /** How: 0 in a VERSION, 1 added, 2 replacing. */
        MClause read(MVersion among, int how) {
            int from = at;
            MClause c = new MClause();
            Token first = look();
            boolean define = is("define");
            if (define) {
                if (how == 0 && among.clauses.size() == 24) {
                    throw first.fault(4);
                }
                at++;
            }
            c.kind = define ? 0 : 9;
            c.name = place(null, 0);
            at--;
            if (how == 0 && (among.find(c.name, define) != null || define && facts.contains(c.name))) {
                throw look().fault(2);
            }
            if (how == 2 && among.find(c.name, define) == null) {
                throw look().fault(3);
            }
            if (how == 0 && among.clauses.size() == 24) {
                throw look().fault(4);
            }
            at++;
            if (define) {
                want("as");
                c.iff = cond(among, how != 0);
            } else {
                deed(c, among, how);
            }
            c.written = spaced(list.subList(from, at));
            return c;
        }

        void deed(MClause c, MVersion among, int how) {
            want(":");
            c.kind = Arrays.asList("duty", "right", "ban").indexOf(look().text) + 1;
            if (c.kind == 0) {
                throw look().fault(0);
            }
            at++;
            c.party = place(how == 0 ? parties : null, 6);
            want("to");
            c.act = place(how == 0 ? acts : null, 12);
            if (c.kind == 1) {
                want("by");
                Token t = look();
                if (!t.number() || t.overlong()) {
                    throw t.fault(0);
                }
                c.number = Integer.parseInt(t.text);
                if (c.number > 365) {
                    throw t.fault(1);
                }
                at++;
                c.work = is("workdays");
                want(c.work ? "workdays" : "days");
            }
            if (is("if")) {
                at++;
                c.iff = cond(among, how != 0);
            }
            if (is("unless")) {
                at++;
                c.unless = cond(among, how != 0);
            }
            if (is("over")) {
                do {
                    at++;
                    Token t = look();
                    String label = place(null, 0);
                    if (how == 0 && among.find(label, false) == null) {
                        throw t.fault(3);
                    }
                    c.over.add(label);
                } while (is("and"));
            }
        }

        static String spaced(List<Token> tokens) {
            StringBuilder text = new StringBuilder();
            for (Token t : tokens) {
                text.append(' ').append(t.number() ? String.valueOf(Integer.parseInt(t.text)) : t.text);
            }
            return text.substring(1).replace("( ", "(").replace(" )", ")").replace(" :", ":");
        }

        MVersion whole(String text) {
            List<String> partiesThen = new ArrayList<>(parties);
            List<String> actsThen = new ArrayList<>(acts);
            try {
                start(text);
                MVersion v = new MVersion();
                v.clauses.add(read(v, 0));
                while (is(";")) {
                    at++;
                    v.clauses.add(read(v, 0));
                }
                want("");
                return v;
            } catch (Fault f) {
                parties = partiesThen;
                acts = actsThen;
                throw f;
            }
        }

        int version(int v) {
            String text = tape;
            tape = "";
            if (facts.isEmpty() || v < 0 || v > 3) {
                return -1;
            }
            try {
                versions[v] = whole(text);
                return versions[v].clauses.size();
            } catch (Fault f) {
                return -2 - f.number;
            }
        }

        MVersion at(int v) {
            return v < 0 || v > 3 ? null : versions[v];
        }

        int rider(int v, int w) {
            String text = tape;
            tape = "";
            if (at(v) == null || w < 0 || w > 3) {
                return -1;
            }
            MVersion work = new MVersion();
            work.clauses.addAll(at(v).clauses);
            try {
                start(text);
                for (int k = 0;; k++) {
                    Token t = look();
                    if (!Arrays.asList("strike", "replace", "add").contains(t.text)) {
                        throw t.fault(0);
                    }
                    if (k == 12) {
                        throw t.fault(4);
                    }
                    at++;
                    change(work, t.text);
                    if (is("")) {
                        break;
                    }
                    want(";");
                }
            } catch (Fault f) {
                return -2 - f.number;
            }
            String written = work.written();
            if (written.length() > 900) {
                return -2;
            }
            MRider r = new MRider();
            try {
                r.after = whole(written);
            } catch (Fault f) {
                return -2;
            }
            r.w = w;
            r.before = versions[w];
            riders.add(r);
            versions[w] = r.after;
            return r.after.clauses.size();
        }

        void change(MVersion work, String change) {
            if (change.equals("strike")) {
                Token t = look();
                MClause c = work.find(place(null, 0), false);
                if (c == null) {
                    throw t.fault(3);
                }
                work.clauses.remove(c);
            } else if (change.equals("add")) {
                work.clauses.add(read(work, 1));
            } else {
                MClause c = read(work, 2);
                work.clauses.set(work.clauses.indexOf(work.find(c.name, c.kind == 0)), c);
            }
        }

        boolean takeOff() {
            if (riders.isEmpty()) {
                return false;
            }
            MRider r = riders.remove(riders.size() - 1);
            if (versions[r.w] != r.after) {
                return false;
            }
            versions[r.w] = r.before;
            return true;
        }

        int world() {
            String text = tape;
            tape = "";
            if (facts.isEmpty()) {
                return -1;
            }
            try {
                start(text);
                Tree told = null;
                if (!is("")) {
                    told = cond(null, false);
                    want("");
                }
                world = told;
            } catch (Fault f) {
                return -2 - f.number;
            }
            return worldSize();
        }

        int cases() {
            return facts.isEmpty() ? 0 : 1 << facts.size();
        }

        boolean in(int which) {
            return world == null || world.so(which);
        }

        int worldSize() {
            int n = 0;
            for (int which = 0; which < cases(); which++) {
                n += in(which) ? 1 : 0;
            }
            return n;
        }

        MClause clauseAt(int v, int k) {
            return at(v) == null || k < 0 || k >= at(v).clauses.size() ? null : at(v).clauses.get(k);
        }

        int clause(int v, int k, int what) {
            MClause c = clauseAt(v, k);
            if (c == null || what < 0 || what > 6) {
                return -1;
            }
            int number = c.kind == 1 ? c.number : -1;
            int work = c.kind != 1 ? -1 : c.work ? 1 : 0;
            int[] all = {c.kind, c.kind == 0 ? -1 : parties.indexOf(c.party), c.kind == 0 ? -1 : acts.indexOf(c.act),
                number, work, new TreeSet<>(c.over).size(), c.name.length()};
            return all[what];
        }

        int holds(int v, int k, int which) {
            MClause c = clauseAt(v, k);
            return c == null || which < 0 || which >= cases() ? -1 : at(v).holds(c, which) ? 1 : 0;
        }

        /** OUTCOMES as texts that are in order as texts. */
        List<String> outcomes(int v, int which) {
            TreeSet<String> all = new TreeSet<>();
            for (MClause c : at(v).clauses) {
                if (c.kind != 0 && at(v).holds(c, which)) {
                    all.add(String.format("%d %02d %02d", c.kind, parties.indexOf(c.party), acts.indexOf(c.act))
                            + (c.kind == 1 ? String.format(" %03d %d", c.number, c.work ? 1 : 0) : ""));
                }
            }
            return new ArrayList<>(all);
        }

        int outcome(int v, int which, int i, int what) {
            if (at(v) == null || which < 0 || which >= cases() || i < 0 || i >= outcomes(v, which).size() || what < 0) {
                return -1;
            }
            String[] parts = outcomes(v, which).get(i).split(" ");
            return what < parts.length ? Integer.parseInt(parts[what]) : -1;
        }

        int differs(int v, int w) {
            if (at(v) == null || at(w) == null) {
                return -2;
            }
            for (int which = 0; which < cases(); which++) {
                if (in(which) && !outcomes(v, which).equals(outcomes(w, which))) {
                    return which;
                }
            }
            return -1;
        }

        int changed(int v, int w, int k, int what) {
            if (at(v) == null || at(w) == null || what < 0 || what > 1) {
                return -1;
            }
            List<Integer> numbers = new ArrayList<>();
            List<Integer> least = new ArrayList<>();
            for (MClause c : at(v).clauses) {
                MClause d = at(w).find(c.name, false);
                for (int which = 0; c.kind != 0 && which < cases(); which++) {
                    if (in(which) && at(v).holds(c, which) != (d != null && at(w).holds(d, which))) {
                        numbers.add(at(v).clauses.indexOf(c));
                        least.add(which);
                        break;
                    }
                }
            }
            return k < 0 || k >= numbers.size() ? -1 : what == 0 ? numbers.get(k) : least.get(k);
        }

        int quarrel(int v) {
            if (at(v) == null) {
                return -2;
            }
            List<MClause> all = at(v).clauses;
            for (int which = 0; which < cases(); which++) {
                for (int d = 0; in(which) && d < all.size(); d++) {
                    for (int b = 0; b < all.size(); b++) {
                        MClause one = all.get(d);
                        MClause two = all.get(b);
                        if (one.kind == 1 && two.kind == 3 && one.party.equals(two.party) && one.act.equals(two.act)
                                && at(v).holds(one, which) && at(v).holds(two, which)) {
                            duty = d;
                            ban = b;
                            return which;
                        }
                    }
                }
            }
            return -1;
        }

        int gap(int v, int act) {
            if (at(v) == null || act < 0 || act >= acts.size()) {
                return -2;
            }
            for (int which = 0; which < cases(); which++) {
                boolean owed = false;
                for (MClause c : at(v).clauses) {
                    owed |= c.kind == 1 && c.act.equals(acts.get(act)) && at(v).holds(c, which);
                }
                if (in(which) && !owed) {
                    return which;
                }
            }
            return -1;
        }

        int due(int v, int which, int i, int day) {
            if (outcome(v, which, i, 0) != 1 || day < 0 || day > 9999) {
                return -1;
            }
            int left = outcome(v, which, i, 3);
            boolean work = outcome(v, which, i, 4) == 1;
            int then = day;
            while (left > 0) {
                then++;
                boolean rest = then % 7 == 5 || then % 7 == 6 || free.contains(then);
                left -= work && rest ? 0 : 1;
            }
            return then > 9999 ? -1 : then;
        }

        int count(int what) {
            int[] all = {facts.size(), parties.size(), acts.size(), worldSize(), riders.size(), tape.length(),
                out.length(), free.size()};
            if (what >= 10 && what <= 13) {
                return at(what - 10) == null ? -1 : at(what - 10).clauses.size();
            }
            return what < 0 || what > 7 ? -1 : all[what];
        }
    }

    // ---- the runs

    private static final class Run {
        final int run;
        final Random random;
        final ClauseBench x = new ClauseBench();
        final Model m = new Model();
        final int[] refusals;
        final int[] told;
        final int factCount;
        final int labels;
        final boolean wide;
        boolean right = true;
        int calls;

        Run(int run, int[] refusals, int[] told) {
            this.run = run;
            this.refusals = refusals;
            this.told = told;
            random = new Random(run * 7919L + 17);
            factCount = 1 + random.nextInt(8);
            wide = random.nextInt(4) == 0;
            labels = random.nextInt(3) == 0 ? 40 : 5 + random.nextInt(6);
        }

        boolean go() {
            for (int step = 0; step < 60 && right && calls < 360; step++) {
                act();
            }
            return right;
        }

        void same(String call, int got, int want) {
            calls++;
            if (got != want && right) {
                right = false;
                System.out.println("run " + run + " " + call + ": answered " + got + ", the model's is " + want
                        + "\n tape '" + last + "'");
            }
        }

        void same(String call, boolean got, boolean want) {
            same(call, got ? 1 : 0, want ? 1 : 0);
        }

        String last = "";

        void act() {
            int v = random.nextInt(12) == 0 ? random.nextInt(8) - 2 : random.nextInt(4);
            int w = random.nextInt(12) == 0 ? random.nextInt(8) - 2 : random.nextInt(4);
            switch (random.nextInt(10)) {
                case 0:
                    put(m.facts.isEmpty() || random.nextInt(4) == 0 ? factsText() : condText(2));
                    same("world", answered(3, x.world()), m.world());
                    break;
                case 1:
                case 2:
                case 3:
                    if (m.facts.isEmpty()) {
                        put(factsText());
                        same("facts", answered(0, x.facts()), m.tell());
                    } else {
                        put(versionText());
                        same("version " + v, answered(1, x.version(v)), m.version(v));
                    }
                    break;
                case 4:
                case 5:
                    put(riderText(m.at(v)));
                    same("rider " + v + " " + w, answered(2, x.rider(v, w)), m.rider(v, w));
                    break;
                case 6:
                    same("takeOff", x.takeOff(), m.takeOff());
                    break;
                case 7:
                    rewrite(v, w);
                    break;
                default:
                    ask(v, w);
            }
            same("count", x.count(1), m.count(1));
            same("count", x.count(2), m.count(2));
        }

        int answered(int kind, int answer) {
            if (answer > 0) {
                told[kind]++;
            } else if (answer < -2) {
                refusals[(-3 - answer) % 8]++;
            } else if (answer == -2) {
                refusals[7]++;
            }
            return answer;
        }

        void put(String text) {
            last = text.length() > 900 ? text.substring(0, 900) : text;
            Tape.put(x, last);
            m.tape = last;
            calls += last.length() / 20 + 2;
        }

        void rewrite(int v, int w) {
            MVersion version = m.at(v);
            same("write " + v, x.write(v), version == null ? -1 : version.written().length());
            if (version == null) {
                return;
            }
            m.out = version.written();
            for (int i = -1; i <= m.out.length(); i += 1 + random.nextInt(40)) {
                same("octet " + i, x.octet(i), i < 0 || i >= m.out.length() ? -1 : m.out.charAt(i));
            }
            if (m.tape.length() + m.out.length() > 900) {
                same("back", x.back(), -1);
                return;
            }
            same("back", x.back(), m.tape.length() + m.out.length());
            m.tape += m.out;
            m.out = "";
            last = m.tape;
            same("version " + w, x.version(w), m.version(w));
        }

        void ask(int v, int w) {
            int k = random.nextInt(8) - 1;
            int which = random.nextInt(10) == 0 ? random.nextInt(300) - 20 : random.nextInt(Math.max(1, m.cases()));
            int day = random.nextInt(4) == 0 ? 9600 + random.nextInt(420) : random.nextInt(60) - 2;
            boolean is = random.nextInt(3) > 0;
            boolean changes = day >= 0 && day <= 9999 && (is ? m.free.add(day) : m.free.remove(day));
            same("free " + day, x.free(day, is), changes);
            for (int what = -1; what <= 7; what++) {
                same("clause " + v + " " + k + " " + what, x.clause(v, k, what), m.clause(v, k, what));
            }
            MClause c = m.clauseAt(v, k);
            int i = random.nextInt(6) - 1;
            same("letter", x.letter(v, k, i), c == null || i < 0 || i >= c.name.length() ? -1 : c.name.charAt(i));
            same("holds " + v + " " + k + " " + which, x.holds(v, k, which), m.holds(v, k, which));
            boolean such = m.at(v) != null && which >= 0 && which < m.cases();
            int all = such ? m.outcomes(v, which).size() : -1;
            same("outcomes " + v + " " + which, x.outcomes(v, which), all);
            int o = all > 0 && random.nextInt(5) > 0 ? random.nextInt(all) : random.nextInt(9) - 1;
            for (int what = -1; what <= 5; what++) {
                same("outcome", x.outcome(v, which, o, what), m.outcome(v, which, o, what));
            }
            int from = random.nextInt(3) == 0 ? 9500 + random.nextInt(510) : random.nextInt(100) - 3;
            same("due", x.due(v, which, o, from), m.due(v, which, o, from));
            same("differs " + v + " " + w, x.differs(v, w), m.differs(v, w));
            for (int n = -1; n < 3; n++) {
                same("changed " + v + " " + w + " " + n, x.changed(v, w, n, 0), m.changed(v, w, n, 0));
                same("changed " + v + " " + w + " " + n, x.changed(v, w, n, 1), m.changed(v, w, n, 1));
            }
            same("changed", x.changed(v, w, 0, 2), -1);
            same("quarrel " + v, x.quarrel(v), m.quarrel(v));
            same("quarreling", x.quarreling(0), m.duty);
            same("quarreling", x.quarreling(1), m.ban);
            int act = random.nextInt(14) - 1;
            same("gap " + v + " " + act, x.gap(v, act), m.gap(v, act));
            for (int what = -1; what <= 14; what++) {
                same("count " + what, x.count(what), m.count(what));
            }
        }

        // ---- texts

        String spoiled(List<String> tokens) {
            if (random.nextInt(3) == 0 && !tokens.isEmpty()) {
                String[] odd = {"if", "and", "not", "(", ")", ";", ":", "zz", "a", "n", "p", "400", "0001", "12",
                    "abcdefghijklm", "define", "over", "days", "strike", "%", "\t", "\u00e9", "to", "unless"};
                int at = random.nextInt(tokens.size());
                String token = odd[random.nextInt(odd.length)];
                switch (random.nextInt(4)) {
                    case 0:
                        tokens.set(at, token);
                        break;
                    case 1:
                        tokens.add(at, token);
                        break;
                    case 2:
                        tokens.remove(at);
                        break;
                    default:
                        tokens.add(token);
                }
            }
            boolean dense = random.nextBoolean();
            StringBuilder text = new StringBuilder(random.nextInt(5) == 0 ? " \n" : "");
            for (String token : tokens) {
                if (text.length() > 0 && (!dense || clings(text.charAt(text.length() - 1), token.charAt(0)))) {
                    text.append(random.nextInt(8) == 0 ? "\n" : random.nextInt(20) == 0 ? "  " : " ");
                }
                text.append(token);
            }
            return text.append(random.nextInt(5) == 0 ? "\n " : "").toString();
        }

        static boolean clings(char a, char b) {
            return Character.isLetter(a) && Character.isLetter(b) || Character.isDigit(a) && Character.isDigit(b);
        }

        String factsText() {
            List<String> words = new ArrayList<>();
            int n = random.nextInt(12) == 0 ? 9 : factCount;
            for (int k = 0; k < n; k++) {
                words.add(String.valueOf((char) ('a' + k)));
            }
            Collections.shuffle(words, random);
            return random.nextInt(20) == 0 ? "" : spoiled(words);
        }

        void cond(List<String> into, int depth, List<String> names) {
            int terms = random.nextInt(150) == 0 ? 58 + random.nextInt(5) : 1 + random.nextInt(3);
            for (int k = 0; k < terms; k++) {
                if (k > 0) {
                    into.add(random.nextBoolean() ? "and" : "or");
                }
                int nots = random.nextInt(300) == 0 ? 9 + random.nextInt(3) : random.nextInt(4) == 0 ? 1 : 0;
                for (int i = 0; i < nots; i++) {
                    into.add("not");
                }
                if (depth > 0 && random.nextInt(4) == 0 && terms < 9) {
                    into.add("(");
                    cond(into, depth - 1, names);
                    into.add(")");
                } else {
                    into.add(names.get(random.nextInt(names.size())));
                }
            }
        }

        List<String> known(List<String> defined) {
            List<String> names = new ArrayList<>(defined);
            names.addAll(m.facts);
            names.addAll(m.facts);
            if (names.isEmpty() || random.nextInt(60) == 0) {
                names.add("zz");
            }
            return names;
        }

        String condText(int depth) {
            List<String> tokens = new ArrayList<>();
            if (random.nextInt(6) > 0) {
                cond(tokens, depth, known(new ArrayList<>()));
            }
            return spoiled(tokens);
        }

        String labelled(int k) {
            return (k % 7 == 0 ? "label" : "p") + (char) ('a' + k % 26) + (k >= 26 ? "x" : "");
        }

        void clause(List<String> into, List<String> defined, List<String> labels, String name, boolean define) {
            if (define) {
                into.addAll(Arrays.asList("define", name, "as"));
                cond(into, 3, known(defined));
                defined.add(name);
                return;
            }
            int kind = random.nextInt(4) % 3;
            into.addAll(Arrays.asList(name, ":", new String[] {"duty", "right", "ban"}[kind],
                    "x" + (char) ('a' + random.nextInt(wide ? 8 : 3)), "to",
                    "y" + (char) ('a' + random.nextInt(wide ? 15 : 3))));
            if (kind == 0) {
                int number = random.nextInt(3) == 0 ? random.nextInt(368) : random.nextInt(4);
                into.addAll(Arrays.asList("by", random.nextInt(4) == 0 ? String.format("%03d", number) : "" + number,
                        random.nextBoolean() ? "days" : "workdays"));
            }
            if (random.nextInt(3) > 0) {
                into.add("if");
                cond(into, 2, known(defined));
            }
            if (random.nextInt(3) == 0) {
                into.add("unless");
                cond(into, 2, known(defined));
            }
            if (random.nextInt(3) == 0 && !labels.isEmpty()) {
                into.add("over");
                into.add(labels.get(random.nextInt(labels.size())));
                while (random.nextInt(3) == 0) {
                    into.add("and");
                    into.add(labels.get(random.nextInt(labels.size())));
                }
            }
            labels.add(name);
        }

        String versionText() {
            List<String> tokens = new ArrayList<>();
            List<String> defined = new ArrayList<>();
            List<String> told = new ArrayList<>();
            boolean many = random.nextInt(20) == 0;
            int n = many ? 23 + random.nextInt(4) : 1 + random.nextInt(7);
            for (int k = 0; k < n; k++) {
                if (k > 0) {
                    tokens.add(";");
                }
                if (many) {
                    tokens.addAll(Arrays.asList("p" + (char) ('a' + k), ":", "ban", "xa", "to", "ya"));
                } else {
                    boolean define = random.nextInt(4) == 0;
                    int number = random.nextInt(15) == 0 ? random.nextInt(labels) : k;
                    clause(tokens, defined, told, define ? "n" + labelled(number) : labelled(number), define);
                }
            }
            return spoiled(tokens);
        }

        String riderText(MVersion on) {
            List<String> tokens = new ArrayList<>();
            List<String> defined = new ArrayList<>();
            List<String> told = new ArrayList<>();
            for (int k = 0; on != null && k < on.clauses.size(); k++) {
                (on.clauses.get(k).kind == 0 ? defined : told).add(on.clauses.get(k).name);
            }
            int n = random.nextInt(15) == 0 ? 11 + random.nextInt(4) : 1 + random.nextInt(3);
            for (int k = 0; k < n; k++) {
                if (k > 0) {
                    tokens.add(";");
                }
                int change = n > 5 ? 1 : random.nextInt(3);
                if (change == 0 && !told.isEmpty()) {
                    tokens.add("strike");
                    tokens.add(told.get(random.nextInt(told.size())));
                } else if (change == 1 && !told.isEmpty()) {
                    boolean define = random.nextInt(3) == 0 && !defined.isEmpty();
                    List<String> from = define ? defined : told;
                    String name = from.get(random.nextInt(from.size()));
                    tokens.add("replace");
                    if (n > 5) {
                        String label = told.get(random.nextInt(told.size()));
                        tokens.addAll(Arrays.asList(label, ":", "ban", "xa", "to", "ya"));
                    } else {
                        clause(tokens, new ArrayList<>(defined), new ArrayList<>(told), name, define);
                    }
                } else {
                    tokens.add("add");
                    boolean define = random.nextInt(4) == 0;
                    String name = labelled(random.nextInt(labels));
                    clause(tokens, defined, told, define ? "n" + name : name, define);
                }
            }
            return spoiled(tokens);
        }
    }
}
