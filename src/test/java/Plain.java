import java.util.ArrayList;
import java.util.HashMap;
import java.util.HashSet;
import java.util.LinkedHashMap;
import java.util.List;
import java.util.Map;
import java.util.NoSuchElementException;
import java.util.Set;
import java.util.TreeSet;

/**
 * The document once more, in its plainest form and without any table: every answer is worked
 * out anew from the text. Faults are gathered, and the least by place and number is told.
 */
final class Plain {
    interface Sum { int at(int[] own, int[] ahead, int pick); }
    interface Fact { boolean at(int[] own, int[] ahead, int pick); }
    record Token(String text, int place, char type) { }
    record Fault(int place, int number) { }
    static final class Stop extends RuntimeException { static final long serialVersionUID = 1; }
    static final class Var { String name; int low; int high; int at; }
    static final class Ev {
        String name; String of; int first; int last; Fact when; boolean aside;
        Map<String, Sum> gives = new LinkedHashMap<>();
    }
    static final class Mac {
        String name; List<Var> vars = new ArrayList<>(); List<Fact> laws = new ArrayList<>();
        List<Ev> events = new ArrayList<>(); Sum variant; int variants;
        Var var(String n) { for (Var v : vars) if (v.name.equals(n)) return v; return null; }
        Ev event(String n) { for (Ev e : events) if (e.name.equals(n)) return e; return null; }
    }
    record Case(int a, int s, int pick) { }

    private static final Set<String> RESERVED = Set.of("machine", "var", "from", "to", "at", "law", "event",
            "of", "any", "when", "do", "variant", "or", "and", "not", "pick");

    byte[] tape = new byte[0];
    List<Mac> macs = new ArrayList<>();
    int trouble, fault, where;
    int shownMachine; Case shownCase;
    String written = "";
    int runOf = -1, runState, runMade; Set<Integer> besides = new TreeSet<>();

    // ---- reading

    private List<Token> toks; private int at; private List<Fault> faults; private List<Mac> read;
    private Set<String> names; private int atoms; private int opened; private boolean law, inEvent;

    private static List<Token> cut(String t) {
        List<Token> out = new ArrayList<>();
        int i = 0;
        while (i < t.length()) {
            int j = i;
            char c = t.charAt(i);
            if (c == ' ') { i++; continue; }
            if (c >= 'a' && c <= 'z') {
                while (j < t.length() && t.charAt(j) >= 'a' && t.charAt(j) <= 'z') j++;
                out.add(new Token(t.substring(i, j), i, j - i > 7 ? 'b' : 'w'));
            } else if (c >= '0' && c <= '9') {
                while (j < t.length() && t.charAt(j) >= '0' && t.charAt(j) <= '9') j++;
                out.add(new Token(t.substring(i, j), i, j - i > 3 ? 'b' : 'n'));
            } else {
                j++;
                out.add(new Token("" + c, i, ";,=<>+-*()[]".indexOf(c) >= 0 ? 's' : 'b'));
            }
            i = j;
        }
        out.add(new Token("", t.length(), 'e'));
        return out;
    }

    private Token tok() { return toks.get(at); }
    private boolean is(String s) { return tok().type != 'e' && tok().type != 'b' && tok().text.equals(s); }
    private void blame(int number) { faults.add(new Fault(tok().place, number)); }
    private Stop form() { blame(1); return new Stop(); }
    private void must(String s) { if (!is(s)) throw form(); at++; }
    private String name() {
        if (tok().type != 'w' || RESERVED.contains(tok().text)) throw form();
        return tok().text;
    }
    private String newName() {
        String n = name();
        if (!names.add(n)) blame(3);
        at++;
        return n;
    }
    private int whole(int least, int most) {
        if (tok().type != 'n') throw form();
        int n = Integer.parseInt(tok().text);
        if (n < least || n > most) blame(2);
        return n;
    }
    private Mac mac() { return read.isEmpty() ? null : read.get(read.size() - 1); }
    private Mac ahead() { return read.size() < 2 ? null : read.get(read.size() - 2); }

    private Fault parse(String text) {
        toks = cut(text); at = 0; faults = new ArrayList<>(); read = new ArrayList<>(); names = new HashSet<>();
        try {
            line();
            while (is(";")) { at++; line(); }
            if (tok().type != 'e') throw form();
            if (mac() == null || mac().vars.isEmpty()) blame(5);
        } catch (Stop s) {
            // what was met so far is in the list
        }
        Fault least = null;
        for (Fault f : faults)
            if (least == null || f.place < least.place || f.place == least.place && f.number < least.number) least = f;
        return least;
    }

    private void line() {
        law = false; inEvent = false; atoms = 0; opened = 0;
        Mac m = mac();
        boolean noVar = m == null || m.vars.isEmpty();
        if (is("machine")) {
            if (read.size() >= 3) blame(4);
            if (m != null && noVar) blame(5);
            at++;
            Mac n = new Mac(); n.name = newName(); read.add(n);
        } else if (is("var")) {
            if (m == null) blame(5);
            else if (m.vars.size() >= 3 || !m.laws.isEmpty() || !m.events.isEmpty() || m.variants > 0) blame(4);
            at++;
            Var v = new Var(); v.name = newName();
            must("from"); v.low = whole(0, 9); at++;
            must("to"); v.high = whole(v.low, 9);
            int all = Math.max(0, v.high - v.low + 1);
            if (m != null) for (Var o : m.vars) all *= o.high - o.low + 1;
            if (all > 100) blame(4);
            at++;
            must("at"); v.at = whole(v.low, v.high); at++;
            if (m != null) m.vars.add(v);
        } else if (is("law")) {
            if (noVar) blame(5);
            if (m != null && m.laws.size() >= 4) blame(4);
            at++; law = true;
            Fact f = test();
            if (m != null) m.laws.add(f);
        } else if (is("event")) {
            if (noVar) blame(5);
            if (m != null && m.events.size() >= 4) blame(4);
            at++; inEvent = true;
            eventLine(m == null ? new Mac() : m);
        } else if (is("variant")) {
            if (noVar) blame(5);
            if (m != null && m.variants > 0) blame(4);
            at++;
            Sum s = sum();
            if (m != null) { m.variant = s; m.variants++; }
        } else throw form();
    }

    private void eventLine(Mac m) {
        Ev e = new Ev(); e.name = newName();
        if (is("of")) {
            at++;
            e.of = name();
            if (ahead() == null || ahead().event(e.of) == null) blame(3);
            at++;
        }
        if (is("any")) {
            at++;
            e.first = whole(0, 99); at++;
            must("to");
            e.last = whole(e.first, 99);
            if (e.last - e.first + 1 > 10) blame(4);
            at++;
        }
        must("when");
        e.when = test();
        must("do");
        boolean more = true;
        while (more) {
            String n = name();
            if (m.var(n) == null || e.gives.containsKey(n)) blame(3);
            at++;
            must("=");
            atoms = 0;
            e.gives.put(n, sum());
            more = is(",");
            if (more) at++;
        }
        m.events.add(e);
    }

    private Fact test() {
        Fact f = both();
        while (is("or")) { at++; Fact l = f; Fact r = both(); f = (o, a, p) -> l.at(o, a, p) || r.at(o, a, p); }
        return f;
    }

    private Fact both() {
        Fact f = fact();
        while (is("and")) { at++; Fact l = f; Fact r = fact(); f = (o, a, p) -> l.at(o, a, p) && r.at(o, a, p); }
        return f;
    }

    private void openOne() { if (++opened > 8) blame(4); at++; }

    private Fact fact() {
        if (is("not")) { openOne(); Fact f = fact(); opened--; return (o, a, p) -> !f.at(o, a, p); }
        if (is("(")) { openOne(); Fact f = test(); must(")"); opened--; return f; }
        Sum l = sum();
        String sign = tok().text;
        if (!is("<") && !is(">") && !is("=")) throw form();
        at++;
        Sum r = sum();
        return (o, a, p) -> {
            int x = l.at(o, a, p), y = r.at(o, a, p);
            return sign.equals("<") ? x < y : sign.equals(">") ? x > y : x == y;
        };
    }

    private Sum sum() {
        Sum s = term();
        while (is("+") || is("-")) {
            boolean plus = is("+");
            at++;
            Sum l = s, r = term();
            s = (o, a, p) -> plus ? l.at(o, a, p) + r.at(o, a, p) : l.at(o, a, p) - r.at(o, a, p);
        }
        return s;
    }

    private Sum term() {
        Sum s = atom();
        while (is("*")) { at++; Sum l = s, r = atom(); s = (o, a, p) -> l.at(o, a, p) * r.at(o, a, p); }
        return s;
    }

    private Sum atom() {
        if (tok().type == 'n') { many(); int w = whole(0, 999); at++; return (o, a, p) -> w; }
        if (is("[")) { many(); openOne(); Sum s = sum(); must("]"); opened--; return s; }
        if (is("pick") && inEvent) { many(); at++; return (o, a, p) -> p; }
        String n = name();
        many();
        Mac m = mac(), b = ahead();
        Sum s = (o, a, p) -> 0;
        if (m != null && m.var(n) != null) { int i = m.vars.indexOf(m.var(n)); s = (o, a, p) -> o[i]; }
        else if (law && b != null && b.var(n) != null) { int i = b.vars.indexOf(b.var(n)); s = (o, a, p) -> a[i]; }
        else blame(3);
        at++;
        return s;
    }

    private void many() { if (++atoms > 30) blame(4); }

    // ---- states

    private int states(int m) { int n = 1; for (Var v : macs.get(m).vars) n *= v.high - v.low + 1; return n; }

    private int[] numbers(int m, int state) {
        List<Var> vs = macs.get(m).vars;
        int[] out = new int[vs.size()];
        for (int i = vs.size() - 1; i >= 0; i--) {
            int span = vs.get(i).high - vs.get(i).low + 1;
            out[i] = vs.get(i).low + state % span;
            state /= span;
        }
        return out;
    }

    private int stateOf(int m, int[] row) {
        for (int s = 0; s < states(m); s++) if (java.util.Arrays.equals(numbers(m, s), row)) return s;
        return -2;
    }

    private int begin(int m) { return stateOf(m, macs.get(m).vars.stream().mapToInt(v -> v.at).toArray()); }

    private final Map<Long, Boolean> gluedKnown = new HashMap<>();

    private boolean isSound(int m, int s) {
        if (m == 0) {
            for (Fact l : macs.get(0).laws) if (!l.at(numbers(0, s), null, 0)) return false;
            return true;
        }
        for (int a = 0; a < states(m - 1); a++) if (isGlued(m, a, s)) return true;
        return false;
    }

    private boolean isGlued(int m, int a, int s) {
        long key = (m * 1000L + a) * 1000L + s;
        Boolean known = gluedKnown.get(key);
        if (known != null) return known;
        boolean is = isSound(m - 1, a);
        if (is) for (Fact l : macs.get(m).laws) is &= l.at(numbers(m, s), numbers(m - 1, a), 0);
        gluedKnown.put(key, is);
        return is;
    }

    private boolean canBe(int m, int e, int s, int pick) {
        Ev ev = macs.get(m).events.get(e);
        return !ev.aside && ev.when.at(numbers(m, s), null, pick);
    }

    private int given(int m, int e, int s, int pick) {
        Mac mac = macs.get(m);
        int[] old = numbers(m, s), row = old.clone();
        for (int v = 0; v < row.length; v++) {
            Sum g = mac.events.get(e).gives.get(mac.vars.get(v).name);
            if (g != null) row[v] = g.at(old, null, pick);
        }
        return stateOf(m, row);
    }

    private boolean some(int m, int s) {
        for (int e = 0; e < macs.get(m).events.size(); e++) if (someBy(m, e, s)) return true;
        return false;
    }

    private boolean someBy(int m, int e, int s) {
        Ev ev = macs.get(m).events.get(e);
        for (int p = ev.first; p <= ev.last; p++) if (canBe(m, e, s, p)) return true;
        return false;
    }

    private int ofWhich(int m, int e) {
        String of = macs.get(m).events.get(e).of;
        return of == null ? -2 : macs.get(m - 1).events.indexOf(macs.get(m - 1).event(of));
    }

    private Set<Integer> allGiven(int m, int e, int s) {
        Set<Integer> out = new TreeSet<>();
        Ev ev = macs.get(m).events.get(e);
        for (int p = ev.first; p <= ev.last; p++)
            if (canBe(m, e, s, p) && given(m, e, s, p) >= 0) out.add(given(m, e, s, p));
        return out;
    }

    // ---- duties

    private List<Case> failing(int m, int e, int duty) {
        List<Case> out = new ArrayList<>();
        if (duty == 3) {
            if (m == 0 ? !isSound(0, begin(0)) : !isGlued(m, begin(m - 1), begin(m)))
                out.add(new Case(m == 0 ? 0 : begin(m - 1), begin(m), 0));
            return out;
        }
        for (int a = 0; a < (m == 0 ? 1 : states(m - 1)); a++) {
            for (int s = 0; s < states(m); s++) {
                if (m == 0 ? !isSound(0, s) : !isGlued(m, a, s)) continue;
                if (duty == 4) {
                    if ((m == 0 || some(m - 1, a)) && !some(m, s)) out.add(new Case(a, s, 0));
                    continue;
                }
                Ev ev = macs.get(m).events.get(e);
                for (int p = ev.first; p <= ev.last; p++)
                    if (canBe(m, e, s, p) && !holdsAt(m, e, duty, a, s, p)) out.add(new Case(a, s, p));
            }
        }
        return out;
    }

    private boolean holdsAt(int m, int e, int duty, int a, int s, int p) {
        int of = ofWhich(m, e);
        int next = given(m, e, s, p);
        if (duty == 1) return of < 0 || someBy(m - 1, of, a);
        if (duty == 2) {
            if (m == 0 || of >= 0) return true;
            Sum v = macs.get(m).variant;
            if (v == null || next < 0) return false;
            int there = v.at(numbers(m, next), null, 0);
            return there >= 0 && there < v.at(numbers(m, s), null, 0);
        }
        if (next < 0) return false;
        if (m == 0) return isSound(0, next);
        if (of < 0) return isGlued(m, a, next);
        for (int b : allGiven(m - 1, of, a)) if (isGlued(m, b, next)) return true;
        return false;
    }

    // ---- the face

    private int no(int number) { trouble = number; return -1; }
    private int yes(int answer) { trouble = 0; return answer; }
    private boolean isMac(int m) { return m >= 0 && m < macs.size(); }
    private boolean isVar(int m, int v) { return isMac(m) && v >= 0 && v < macs.get(m).vars.size(); }
    private boolean isEv(int m, int e) { return isMac(m) && e >= 0 && e < macs.get(m).events.size(); }
    private boolean isSt(int m, int s) { return isMac(m) && s >= 0 && s < states(m); }
    private boolean isPick(int m, int e, int p) {
        return p >= macs.get(m).events.get(e).first && p <= macs.get(m).events.get(e).last;
    }

    int feed(int... five) {
        if (tape.length + 20 > 600) return -1;
        byte[] longer = java.util.Arrays.copyOf(tape, tape.length + 20);
        java.nio.ByteBuffer b = java.nio.ByteBuffer.wrap(longer, tape.length, 20);
        for (int n : five) b.putInt(n);
        tape = longer;
        return tape.length;
    }

    int machines(int n) {
        if (n < 0 || n > tape.length) return no(2);
        Fault f = parse(new String(tape, 0, n, java.nio.charset.StandardCharsets.ISO_8859_1));
        tape = new byte[0];
        fault = f == null ? 0 : f.number;
        where = f == null ? -1 : f.place;
        if (f != null) return no(4);
        macs = read; gluedKnown.clear(); runOf = -1; shownCase = null;
        return yes(macs.size());
    }

    int fault() { return fault; }
    int where() { return trouble == 4 ? where : -1; }

    int machine(int m, int what) {
        if (!isMac(m) || what < 0 || what > 8) return no(1);
        Mac c = macs.get(m);
        int sounds = 0, pairs = 0;
        for (int s = 0; s < states(m); s++) {
            if (isSound(m, s)) sounds++;
            if (m > 0) for (int a = 0; a < states(m - 1); a++) if (isGlued(m, a, s)) pairs++;
        }
        int news = (int) c.events.stream().filter(e -> e.of == null).count();
        return yes(new int[] {c.vars.size(), c.laws.size(), c.events.size(), states(m), begin(m),
            c.variant == null ? 0 : 1, sounds, pairs, news}[what]);
    }

    int variable(int m, int v, int what) {
        if (!isVar(m, v) || what < 0 || what > 2) return no(1);
        Var r = macs.get(m).vars.get(v);
        return yes(new int[] {r.low, r.high, r.at}[what]);
    }

    int event(int m, int e, int what) {
        if (!isEv(m, e) || what < 0 || what > 4) return no(1);
        Ev ev = macs.get(m).events.get(e);
        int bits = 0;
        for (int v = 0; v < macs.get(m).vars.size(); v++)
            if (ev.gives.containsKey(macs.get(m).vars.get(v).name)) bits |= 1 << v;
        return yes(new int[] {ofWhich(m, e), ev.first, ev.last, bits, ev.aside ? 1 : 0}[what]);
    }

    int value(int m, int s, int v) { return isSt(m, s) && isVar(m, v) ? yes(numbers(m, s)[v]) : no(1); }
    int sound(int m, int s) { return isSt(m, s) ? yes(isSound(m, s) ? 1 : 0) : no(1); }
    int glued(int m, int a, int s) {
        return m > 0 && isSt(m, s) && isSt(m - 1, a) ? yes(isGlued(m, a, s) ? 1 : 0) : no(1);
    }

    int beneath(int m, int s, int i) {
        if (m < 1 || !isSt(m, s) || i < 0) return no(1);
        List<Integer> all = new ArrayList<>();
        for (int a = 0; a < states(m - 1); a++) if (isGlued(m, a, s)) all.add(a);
        return yes(i < all.size() ? all.get(i) : -2);
    }

    int can(int m, int e, int s, int p) {
        if (!isEv(m, e) || !isSt(m, s)) return no(1);
        return isPick(m, e, p) ? yes(canBe(m, e, s, p) ? 1 : 0) : no(2);
    }

    int gives(int m, int e, int s, int p) {
        if (!isEv(m, e) || !isSt(m, s)) return no(1);
        return isPick(m, e, p) ? yes(given(m, e, s, p)) : no(2);
    }

    int variant(int m, int s) {
        if (!isSt(m, s)) { no(1); return 0; }
        if (macs.get(m).variant == null) { no(5); return 0; }
        return yes(macs.get(m).variant.at(numbers(m, s), null, 0));
    }

    int duty(int m, int e, int d) {
        if (!isMac(m) || d < 0 || d > 4 || d < 3 && !isEv(m, e)) return no(1);
        List<Case> f = failing(m, e, d);
        shownMachine = m;
        shownCase = f.isEmpty() ? null : f.get(0);
        return yes(f.isEmpty() ? 1 : 0);
    }

    int shown(int what) {
        if (what < 0 || what > 2) return no(1);
        return yes(shownCase == null ? -2 : new int[] {shownCase.a, shownCase.s, shownCase.pick}[what]);
    }

    int open(int m) {
        if (!isMac(m)) return no(1);
        int n = 0;
        for (int e = 0; e < macs.get(m).events.size(); e++)
            for (int d = 0; d < 3; d++) if (!failing(m, e, d).isEmpty()) n++;
        for (int d = 3; d < 5; d++) if (!failing(m, 0, d).isEmpty()) n++;
        return yes(n);
    }

    int cases(int m, int e, int d) {
        return d < 0 || d > 2 || !isEv(m, e) ? no(1) : yes(failing(m, e, d).size());
    }

    int write() {
        if (shownCase == null) return no(5);
        written = (shownMachine > 0 ? told(shownMachine - 1, shownCase.a) : "") + told(shownMachine, shownCase.s)
                + "pick=" + shownCase.pick;
        return yes(written.length());
    }

    private String told(int m, int s) {
        StringBuilder b = new StringBuilder();
        int[] row = numbers(m, s);
        for (int v = 0; v < row.length; v++) b.append(macs.get(m).vars.get(v).name + "=" + row[v] + " ");
        return b.toString();
    }

    int octet(int k) { return k < 0 ? no(1) : yes(k < written.length() ? written.charAt(k) : -2); }

    int run(int m) {
        if (!isMac(m)) return no(1);
        runOf = m; runState = begin(m); runMade = 0; besides = new TreeSet<>();
        if (m > 0 && isGlued(m, begin(m - 1), runState)) besides.add(begin(m - 1));
        return yes(runState);
    }

    private void go(int e, int p) {
        int next = given(runOf, e, runState, p);
        Set<Integer> then = new TreeSet<>();
        if (runOf > 0) {
            int of = ofWhich(runOf, e);
            for (int b : besides) {
                if (of < 0) then.add(b);
                else then.addAll(allGiven(runOf - 1, of, b));
            }
            then.removeIf(a -> !isGlued(runOf, a, next));
        }
        besides = then;
        runState = next;
        runMade++;
    }

    int step(int e, int p) {
        if (runOf < 0 || !isEv(runOf, e)) return no(1);
        if (!isPick(runOf, e, p)) return no(2);
        if (!canBe(runOf, e, runState, p) || given(runOf, e, runState, p) < 0) return no(5);
        go(e, p);
        return yes(runState);
    }

    private List<int[]> choices(int m, int s) {
        List<int[]> out = new ArrayList<>();
        for (int e = 0; e < macs.get(m).events.size(); e++) {
            Ev ev = macs.get(m).events.get(e);
            for (int p = ev.first; p <= ev.last; p++)
                if (canBe(m, e, s, p) && given(m, e, s, p) >= 0) out.add(new int[] {e, p});
        }
        return out;
    }

    int now(int what) {
        if (runOf < 0 || what < 0 || what > 4) return no(1);
        int bits = 0;
        for (int[] c : choices(runOf, runState)) bits |= 1 << c[0];
        return yes(new int[] {runOf, runState, runMade, besides.size(), bits}[what]);
    }

    int beside(int i) {
        if (runOf < 0 || i < 0) return no(1);
        return yes(i < besides.size() ? new ArrayList<>(besides).get(i) : -2);
    }

    int draws(int n, int seed) {
        if (runOf < 0) return no(1);
        if (n < 1 || n > 40 || seed < 0) return no(2);
        java.math.BigInteger x = java.math.BigInteger.valueOf(seed);
        for (int i = 0; i < n; i++) {
            List<int[]> all = choices(runOf, runState);
            if (all.isEmpty()) return yes(i);
            x = x.multiply(java.math.BigInteger.valueOf(1103515245)).add(java.math.BigInteger.valueOf(12345))
                    .mod(java.math.BigInteger.TWO.pow(31));
            int k = x.divide(java.math.BigInteger.valueOf(65536))
                    .mod(java.math.BigInteger.valueOf(all.size())).intValue();
            go(all.get(k)[0], all.get(k)[1]);
        }
        return yes(n);
    }

    /** The fewest steps to each state: made better till nothing changes. */
    private int[] far(int m) {
        int[] d = new int[states(m)];
        java.util.Arrays.fill(d, 9999);
        d[begin(m)] = 0;
        for (boolean change = true; change;) {
            change = false;
            for (int s = 0; s < d.length; s++) {
                if (d[s] == 9999) continue;
                for (int[] c : choices(m, s)) {
                    int t = given(m, c[0], s, c[1]);
                    if (d[t] > d[s] + 1) { d[t] = d[s] + 1; change = true; }
                }
            }
        }
        return d;
    }

    int reach(int m) {
        return isMac(m) ? yes((int) java.util.Arrays.stream(far(m)).filter(x -> x < 9999).count()) : no(1);
    }
    int steps(int m, int s) {
        if (!isSt(m, s)) return no(1);
        int d = far(m)[s];
        return yes(d == 9999 ? -2 : d);
    }

    int stuck(int m) {
        if (!isMac(m)) return no(1);
        int[] d = far(m);
        for (int n = 0; n < 9999 && n <= d.length; n++)
            for (int s = 0; s < d.length; s++) if (d[s] == n && choices(m, s).isEmpty()) return yes(s);
        return yes(-2);
    }

    int unsound(int m) {
        if (!isMac(m)) return no(1);
        int[] d = far(m);
        int n = 0;
        for (int s = 0; s < d.length; s++) if (d[s] < 9999 && !isSound(m, s)) n++;
        return yes(n);
    }

    int aside(int m, int e, boolean is) {
        if (!isEv(m, e)) return no(1);
        Ev ev = macs.get(m).events.get(e);
        if (ev.aside == is) return no(5);
        ev.aside = is;
        return yes((int) macs.get(m).events.stream().filter(x -> x.aside).count());
    }

    int letter(int m, int v, int k) {
        if (!isMac(m) || v != -1 && !isVar(m, v)) throw new NoSuchElementException();
        String n = v == -1 ? macs.get(m).name : macs.get(m).vars.get(v).name;
        if (k < 0 || k >= n.length()) throw new NoSuchElementException();
        return n.charAt(k) - 'a';
    }

    int size() { return tape.length; }
    int trouble() { return trouble; }
}
