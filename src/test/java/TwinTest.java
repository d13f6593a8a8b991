import java.util.ArrayList;
import java.util.List;
import java.util.NoSuchElementException;
import java.util.Random;

/** Random texts, whole and hurt, and random calls: the class against the plain twin. */
public final class TwinTest {
    private static int wrong = 0;
    private static int fineTexts = 0;
    private static final int[] faultsSeen = new int[6];

    public static void main(String[] args) {
        int rounds = args.length > 0 ? Integer.parseInt(args[0]) : 1500;
        int from = args.length > 1 ? Integer.parseInt(args[1]) : 0;
        for (int seed = from; seed < from + rounds && wrong < 20; seed++) {
            new TwinTest(seed).play();
        }
        System.out.println(fineTexts + " texts without fault; faults 1 .. 5: " + faultsSeen[1] + " " + faultsSeen[2]
                + " " + faultsSeen[3] + " " + faultsSeen[4] + " " + faultsSeen[5]);
        for (int f = 1; f <= 5; f++) if (faultsSeen[f] == 0 && rounds > 1000) wrong++;
        System.out.println(wrong == 0 ? "the twins agree" : wrong + " answers differ");
        if (wrong != 0) System.exit(1);
    }

    private final int seed;
    private final Random random;
    private final FinerSteps x = new FinerSteps();
    private final Plain y = new Plain();
    private final List<String> log = new ArrayList<>();

    private TwinTest(int seed) { this.seed = seed; this.random = new Random(seed); }

    private void same(String call, int got, int want) {
        same0(call, got, want);
        same0(call + "; trouble()", x.trouble(), y.trouble());
        same0(call + "; where()", x.where(), y.where());
        same0(call + "; fault()", x.fault(), y.fault());
        same0(call + "; size()", x.size(), y.size());
    }

    private void same0(String call, int got, int want) {
        if (got == want) return;
        wrong++;
        System.out.println("seed " + seed + ": " + call + " answered " + got + ", the twin " + want);
        System.out.println("   " + (log.isEmpty() ? "no text" : log.get(log.size() - 1)));
    }

    private void play() {
        for (int t = 0; t < 12 && wrong < 20; t++) {
            Maker maker = new Maker(random);
            String text = maker.text();
            int hurts = random.nextInt(3) == 0 ? 0 : random.nextInt(3);
            for (int h = 0; h < hurts; h++) text = hurt(text);
            if (text.length() > 600) text = text.substring(0, 600);
            if (tell(text)) {
                fineTexts++;
                for (int c = 0; c < 150; c++) call();
            } else {
                for (int c = 0; c < 3; c++) call();
            }
        }
    }

    private boolean tell(String text) {
        log.add(text);
        int n = text.length();
        for (int i = 0; i < n; i += 20) {
            int[] f = new int[5];
            for (int k = 0; k < 20; k++) f[k / 4] = f[k / 4] << 8 | (i + k < n ? text.charAt(i + k) & 255 : ' ');
            same("feed", x.feed(f[0], f[1], f[2], f[3], f[4]), y.feed(f));
        }
        if (random.nextInt(9) == 0) same("machines too long", x.machines(y.size() + 1), y.machines(y.size() + 1));
        if (random.nextInt(9) == 0) same("machines(-1)", x.machines(-1), y.machines(-1));
        int answer = y.machines(n);
        same("machines(" + n + ")", x.machines(n), answer);
        if (answer < 0) faultsSeen[y.fault()]++;
        return answer >= 0;
    }

    private static final String[] BITS = {"machine", "var", "from", "to", "at", "law", "event", "of", "any", "when",
        "do", "variant", "or", "and", "not", "pick", ";", ",", "=", "<", ">", "+", "-", "*", "(", ")", "[", "]", "a",
        "b", "c", "d", "e", "f", "0", "1", "9", "10", "99", "100", "999", "1000", "abcdefg", "abcdefgh", "?", "A", "\n",
        "\u00e9", " ", "machine zz", "var zz from 0 to 9 at 0", "law 1 = 1", "event zz when 1 = 1 do", "variant 1"};

    private String hurt(String text) {
        List<Integer> cuts = new ArrayList<>();
        for (int i = 0; i <= text.length(); i++)
            if (i == 0 || i == text.length() || text.charAt(i) == ' ' || text.charAt(i) == ';') cuts.add(i);
        int a = cuts.get(random.nextInt(cuts.size()));
        int b = cuts.get(random.nextInt(cuts.size()));
        if (random.nextBoolean()) b = cuts.get(Math.min(cuts.size() - 1, cuts.indexOf(a) + 1));
        int lo = Math.min(a, b), hi = Math.max(a, b);
        String bit = BITS[random.nextInt(BITS.length)];
        switch (random.nextInt(7)) {
            case 0: return text.substring(0, lo) + text.substring(hi);
            case 1: return text.substring(0, a) + " " + bit + " " + text.substring(a);
            case 2: return text.substring(0, lo) + " " + bit + " " + text.substring(hi);
            case 3: return text.substring(0, a) + ";" + bit + " " + text.substring(a);
            case 4: return text.substring(0, hi) + text.substring(lo);
            case 5: return text.substring(0, hi);
            default:
                int i = random.nextInt(text.length() + 1);
                return text.substring(0, i) + bit + text.substring(Math.min(text.length(), i + random.nextInt(2)));
        }
    }

    private int r(int n) { return random.nextInt(n); }
    private int some(int n) { return r(12) == 0 ? r(n + 4) - 2 : r(Math.max(1, n)); }

    private void call() {
        int m = some(Math.max(1, y.macs.size()));
        int states = m >= 0 && m < y.macs.size() ? y.machine(m, 3) : 3;
        int ahead = m >= 1 && m <= y.macs.size() ? y.machine(m - 1, 3) : 3;
        int before = x.machine(m, 3);
        if (y.machine(m, 3) != before) same("machine(m, 3)", before, y.machine(m, 3));
        int e = some(4), s = some(states), v = some(3), a = some(ahead), w = some(9), i = some(4);
        int p = some(4);
        if (m >= 0 && m < y.macs.size() && e >= 0 && e < y.macs.get(m).events.size())
            p = y.macs.get(m).events.get(e).first + some(y.macs.get(m).events.get(e).last
                    - y.macs.get(m).events.get(e).first + 1);
        String args = " m=" + m + " e=" + e + " s=" + s + " v=" + v + " a=" + a + " what=" + w + " i=" + i + " p=" + p;
        String name;
        int got, want;
        switch (r(31)) {
            case 0: name = "machine"; got = x.machine(m, w); want = y.machine(m, w); break;
            case 1: name = "variable"; got = x.variable(m, v, i); want = y.variable(m, v, i); break;
            case 2: name = "event"; got = x.event(m, e, p); want = y.event(m, e, p); break;
            case 3: name = "value"; got = x.value(m, s, v); want = y.value(m, s, v); break;
            case 4: name = "sound"; got = x.sound(m, s); want = y.sound(m, s); break;
            case 5: name = "glued"; got = x.glued(m, a, s); want = y.glued(m, a, s); break;
            case 6: name = "beneath"; got = x.beneath(m, s, i); want = y.beneath(m, s, i); break;
            case 7: name = "can"; got = x.can(m, e, s, p); want = y.can(m, e, s, p); break;
            case 8: name = "gives"; got = x.gives(m, e, s, p); want = y.gives(m, e, s, p); break;
            case 9: name = "variant"; got = x.variant(m, s); want = y.variant(m, s); break;
            case 10: case 11: case 12: {
                int d = some(5);
                name = "duty " + d; got = x.duty(m, e, d); want = y.duty(m, e, d);
                for (int k = -1; k < 4; k++) same0("shown(" + k + ") behind" + args, x.shown(k), y.shown(k));
                break;
            }
            case 13: name = "open"; got = x.open(m); want = y.open(m); break;
            case 14: name = "cases"; got = x.cases(m, e, i); want = y.cases(m, e, i); break;
            case 15: case 16: {
                name = "write"; got = x.write(); want = y.write();
                break;
            }
            case 17: {
                name = "octets"; got = 0; want = 0;
                for (int k = 0; k < 80; k++) same0("octet(" + k + ")", x.octet(k), y.octet(k));
                break;
            }
            case 18: name = "run"; got = x.run(m); want = y.run(m); break;
            case 19: case 20: case 21: {
                int q = y.runOf >= 0 && e >= 0 && e < y.macs.get(y.runOf).events.size()
                        ? y.macs.get(y.runOf).events.get(e).first + some(3) : p;
                name = "step pick " + q; got = x.step(e, q); want = y.step(e, q);
                break;
            }
            case 22: name = "now"; got = x.now(i); want = y.now(i); break;
            case 23: name = "beside"; got = x.beside(i); want = y.beside(i); break;
            case 24: {
                int n = some(41), z = r(9) == 0 ? -1 : r(3) == 0 ? Integer.MAX_VALUE - r(3) : r(1000000000);
                name = "draws " + n + " " + z; got = x.draws(n, z); want = y.draws(n, z);
                for (int k = 0; k < 5; k++) same0("now(" + k + ") behind draws", x.now(k), y.now(k));
                for (int k = 0; k < 9; k++) same0("beside(" + k + ") behind draws", x.beside(k), y.beside(k));
                break;
            }
            case 25: name = "reach"; got = x.reach(m); want = y.reach(m); break;
            case 26: name = "steps"; got = x.steps(m, s); want = y.steps(m, s); break;
            case 27: name = "stuck"; got = x.stuck(m); want = y.stuck(m); break;
            case 28: name = "unsound"; got = x.unsound(m); want = y.unsound(m); break;
            case 29: {
                boolean is = r(3) == 0;
                name = "aside " + is; got = x.aside(m, e, is); want = y.aside(m, e, is);
                break;
            }
            default: name = "letter"; got = letter(true, m, v - 1, i); want = letter(false, m, v - 1, i); break;
        }
        same(name + args, got, want);
    }

    private int letter(boolean mine, int m, int v, int k) {
        try {
            return mine ? x.letter(m, v, k) : y.letter(m, v, k);
        } catch (NoSuchElementException e) {
            return -100;
        }
    }

    /** Makes texts that are mostly right, now and then at a limit or just beyond. */
    static final class Maker {
        private final Random random;
        private final StringBuilder out = new StringBuilder();
        private final List<String> own = new ArrayList<>();
        private List<String> ahead = new ArrayList<>();
        private List<String> events = new ArrayList<>();
        private List<String> aheadEvents = new ArrayList<>();
        private int names = 0;
        private int atoms;
        private boolean wild;

        Maker(Random random) { this.random = random; this.wild = random.nextInt(4) == 0; }

        private int r(int n) { return random.nextInt(n); }
        private String name() {
            names++;
            String n = "" + (char) ('a' + names % 26) + (names >= 26 ? "z" : "");
            if (r(12) == 0) n = n + "long".substring(0, 1 + r(4));
            return n;
        }

        String text() {
            int machines = 1 + r(3);
            names = r(20);
            for (int m = 0; m < machines; m++) machine(m);
            String t = out.toString();
            if (r(3) == 0) t = t.replaceAll(" ?([=<>+*;,()\\[\\]-]) ?", "$1");
            if (r(5) == 0) t = t.replaceAll(" ", "  ");
            return t;
        }

        private void machine(int m) {
            if (m > 0) out.append(";");
            out.append("machine ").append(name());
            ahead = new ArrayList<>(own); own.clear();
            aheadEvents = events; events = new ArrayList<>();
            int vars = 1 + r(3);
            int states = 1;
            for (int v = 0; v < vars; v++) {
                int low = r(3) == 0 ? r(9) : 0;
                int span = 1 + r(r(6) == 0 ? 10 : vars == 1 ? 8 : 4);
                if (states * span > 100 && r(8) != 0) span = 1;
                int high = Math.min(9, low + span - 1);
                states *= high - low + 1;
                String n = name();
                out.append(";var " + n + " from " + low + " to " + high + " at " + (low + r(high - low + 1)));
                own.add(n);
            }
            int lines = r(wild ? 9 : 6);
            boolean variant = false;
            if (m > 0 && r(2) == 0) {
                out.append(";law " + own.get(r(own.size())) + " = " + ahead.get(r(ahead.size())));
            }
            for (int l = 0; l < lines; l++) {
                int k = r(8);
                if (k < 2) { out.append(";law "); atoms = 0; test(true, false, 0); }
                else if (k < 7) event();
                else if (!variant || wild) { out.append(";variant "); atoms = 0; sum(false, false, 0); variant = true; }
            }
        }

        private void event() {
            String n = name();
            out.append(";event " + n);
            if (!aheadEvents.isEmpty() && r(3) > 0) out.append(" of " + aheadEvents.get(r(aheadEvents.size())));
            if (r(3) == 0) { int a = r(4) == 0 ? r(100) : r(3); out.append(" any " + a + " to " + (a + r(wild ? 12 : 4))); }
            out.append(" when ");
            atoms = 0;
            test(false, true, 0);
            out.append(" do ");
            events.add(n);
            int gives = 1 + r(own.size());
            List<String> left = new ArrayList<>(own);
            for (int g = 0; g < gives; g++) {
                if (g > 0) out.append(", ");
                String v = left.remove(r(left.size()));
                out.append(v + " = ");
                atoms = 0;
                if (r(2) == 0) out.append(v + (r(2) == 0 ? " + 1" : " - 1"));
                else sum(false, true, 0);
            }
        }

        private void test(boolean law, boolean ev, int depth) {
            fact(law, ev, depth);
            while (r(3) == 0) { out.append(r(2) == 0 ? " and " : " or "); fact(law, ev, depth); }
        }

        private void fact(boolean law, boolean ev, int depth) {
            int deepest = wild ? 11 : 4;
            int k = depth < deepest ? r(wild ? 3 : 7) : 9;
            if (k == 0) { out.append("not "); fact(law, ev, depth + 1); return; }
            if (k == 1) { out.append("("); test(law, ev, depth + 1); out.append(")"); return; }
            sum(law, ev, depth);
            out.append(" " + "<>=".charAt(r(3)) + " ");
            sum(law, ev, depth);
        }

        private void sum(boolean law, boolean ev, int depth) {
            atom(law, ev, depth);
            while (r(wild ? 2 : 3) == 0) { out.append(" " + "+-*".charAt(r(3)) + " "); atom(law, ev, depth); }
        }

        private void atom(boolean law, boolean ev, int depth) {
            int k = r(10);
            if (k == 0 && depth < (wild ? 11 : 4)) { out.append("["); sum(law, ev, depth + 1); out.append("]"); }
            else if (k == 1 && ev) out.append("pick");
            else if (k < 5) out.append(r(6) == 0 ? r(1000) : r(10));
            else if (law && !ahead.isEmpty() && r(2) == 0) out.append(ahead.get(r(ahead.size())));
            else out.append(own.get(r(own.size())));
        }
    }
}
