import java.util.NoSuchElementException;

/** What the tests share: telling a text, and counting what isn't as due. */
final class Kit {
    static int wrong = 0;

    static void due(String call, long got, long want) {
        if (got != want) {
            wrong++;
            System.out.println(call + " answered " + got + ", due is " + want);
        }
    }

    /** An answer with the trouble that is due behind it. */
    static void due(FinerSteps x, String call, long got, long want, int trouble) {
        due(call, got, want);
        due(call + ", then trouble()", x.trouble(), trouble);
    }

    static int feed(FinerSteps x, String text) {
        int answer = x.size();
        for (int i = 0; i < text.length(); i += 20) {
            int[] f = new int[5];
            for (int k = 0; k < 20; k++) {
                f[k / 4] = f[k / 4] << 8 | (i + k < text.length() ? text.charAt(i + k) & 255 : ' ');
            }
            answer = x.feed(f[0], f[1], f[2], f[3], f[4]);
        }
        return answer;
    }

    static int tell(FinerSteps x, String text) {
        feed(x, text);
        return x.machines(text.length());
    }

    static FinerSteps of(String text) {
        FinerSteps x = new FinerSteps();
        int answer = tell(x, text);
        if (answer < 1) {
            wrong++;
            System.out.println("fault " + x.fault() + " at " + x.where() + " of: " + text);
        }
        return x;
    }

    /** A text with a fault at the place that a ^ marks in it. */
    static void fault(int number, String marked) {
        int place = marked.indexOf('^');
        String text = marked.substring(0, place) + marked.substring(place + 1);
        FinerSteps x = new FinerSteps();
        due("machines of " + text, tell(x, text), -1);
        due("trouble() of " + text, x.trouble(), 4);
        due("fault() of " + text, x.fault(), number);
        due("where() of " + text, x.where(), place);
        due("size() of " + text, x.size(), 0);
        due("machine(0, 0) of " + text, x.machine(0, 0), -1);
        due("where() later of " + text, x.where(), -1);
        due("fault() later of " + text, x.fault(), number);
    }

    /** A text without one. */
    static void fine(int machines, String text) {
        FinerSteps x = new FinerSteps();
        due("machines of " + text, tell(x, text), machines);
        due("fault() of " + text + " at " + x.where(), x.fault(), 0);
    }

    static void dueNoLetter(FinerSteps x, int m, int v, int k) {
        int thrown = 0;
        try {
            x.letter(m, v, k);
        } catch (NoSuchElementException e) {
            thrown = 1;
        }
        due("letter(" + m + ", " + v + ", " + k + ") throws", thrown, 1);
    }

    static String written(FinerSteps x) {
        StringBuilder b = new StringBuilder();
        for (int k = 0; x.octet(k) >= 0; k++) {
            b.append((char) x.octet(k));
        }
        return b.toString();
    }

    static void dueText(String call, String got, String want) {
        if (!got.equals(want)) {
            wrong++;
            System.out.println(call + " answered \"" + got + "\", due is \"" + want + "\"");
        }
    }

    static void end() {
        System.out.println(wrong == 0 ? "all answers are as due" : wrong + " answers are not as due");
        if (wrong != 0) {
            System.exit(1);
        }
    }
}
