import java.util.ArrayList;
import java.util.List;

/** Boundary cases of promise 3 as a whole: a text with all that one may have, and texts told behind one another. */
public final class FullEdgesTest {
    /** All names that a text may tell: of three machines, nine variables, twelve events. */
    private static final int NAMES = 24;
    private static final String LETTERS = "abcdefghijklmnopqrstuvwx";

    /** Texts of unlike shapes; each has what the others lack, so that nothing of one may be left in the next. */
    private static final String[] SHAPES = {
        "machine a;var n from 0 to 9 at 9;law n > 4;event go any 3 to 7 when n > pick do n = n - pick;variant n;"
            + "machine b;var x from 0 to 9 at 9;law x = n;event hop of go any 5 to 6 when x > 1 do x = x - pick;"
            + "event slip when x > 8 do x = x;variant 9 - x",
        "machine a;var n from 0 to 3 at 1;event go when n < 1 do n = n + 1;event off when n = 1 do n = 9;"
            + "machine b;var x from 1 to 2 at 2;var y from 0 to 1 at 0;law x > n;event slip when y = 0 do y = 1",
        "machine a;var n from 0 to 9 at 0;var m from 0 to 9 at 0;law m < 5;event go any 90 to 99 when n = 0 do m = pick - 90;"
            + "machine b;var x from 0 to 9 at 0;law 1 = 0;event hop of go when 1 = 1 do x = 0;variant x;"
            + "machine c;var y from 0 to 1 at 0;event skip of hop when y = 0 do y = 1",
        "machine a;var n from 5 to 5 at 5",
    };

    public static void main(String[] args) {
        allThatATextMayHave();
        oneMoreOfEach();
        everyNameToldAgain();
        hundredStatesOfEach();
        namesOfAnEarlierText();
        variablesOfAnEarlierText();
        manyTextsBehindOneAnother();
        eachBehindTwoOthers();
        eachBehindFaultyOnes();
        Kit.end();
    }

    /** Three machines of three variables, four laws, four events and a variant; names are told by signs from A on. */
    private static String brimful() {
        StringBuilder b = new StringBuilder();
        for (int m = 0; m < 3; m++) {
            char first = (char) ('A' + 8 * m);
            char x = (char) (first + 1);
            char y = (char) (first + 2);
            char z = (char) (first + 3);
            b.append(m > 0 ? ";" : "").append("machine ").append(first);
            for (char v = x; v <= z; v++) {
                b.append(";var ").append(v).append(" from0to1at0");
            }
            b.append(";law 1=1;law ").append(x).append("<2;law ").append(y).append("<2;law ").append(z).append("=0");
            for (int e = 0; e < 4; e++) {
                char given = (char) (x + e % 3);
                b.append(";event ").append((char) (first + 4 + e)).append(" when1=1do ").append(given).append("=").append(e % 2);
            }
            b.append(";variant ").append(x);
        }
        return b.toString();
    }

    /** The i-th of the signs from A on becomes the i-th of the names. */
    private static String named(String text, String names) {
        StringBuilder b = new StringBuilder();
        for (int i = 0; i < text.length(); i++) {
            char c = text.charAt(i);
            b.append(c >= 'A' && c < 'A' + NAMES ? names.charAt(c - 'A') : c);
        }
        return b.toString();
    }

    private static void allThatATextMayHave() { // three machines, each with three, four, four, one
        String text = named(brimful(), LETTERS);
        Kit.due("it goes onto the tape", text.length() <= 600 ? 1 : 0, 1);
        FinerSteps x = Kit.of(text);
        int[][] due = {{3, 4, 4, 8, 0, 1, 4, 0, 4}, {3, 4, 4, 8, 0, 1, 4, 16, 4}, {3, 4, 4, 8, 0, 1, 4, 16, 4}};
        for (int m = 0; m < 3; m++) {
            for (int what = 0; what < 9; what++) {
                Kit.due("machine(" + m + ", " + what + ")", x.machine(m, what), due[m][what]);
            }
            for (int v = -1; v < 3; v++) {
                Kit.due("letter(" + m + ", " + v + ", 0)", x.letter(m, v, 0), 8 * m + v + 1);
            }
            for (int state = 0; state < 8; state++) {
                Kit.due("variant(" + m + ", " + state + ")", x.variant(m, state), state / 4);
                int[] given = {state & 3, state | 2, state & 6, state | 4};
                for (int e = 0; e < 4; e++) {
                    Kit.due("can(" + m + ", " + e + ", " + state + ", 0)", x.can(m, e, state, 0), 1);
                    Kit.due("gives(" + m + ", " + e + ", " + state + ", 0)", x.gives(m, e, state, 0), given[e]);
                }
            }
        }
    }

    private static void oneMoreOfEach() { // at its word, though 24 names are told
        String text = named(brimful(), LETTERS);
        if (text.length() > 590) {
            Kit.due("there is room for a word more", text.length(), 590);
        }
        for (String word : new String[] {"machine", "var", "law", "event", "variant"}) {
            Kit.fault(4, text + ";^" + word);
        }
    }

    private static void everyNameToldAgain() { // told once each in all: the 24th is known as well as the first
        String text = brimful();
        for (int i = 0; i < NAMES - 1; i++) {
            String names = LETTERS.substring(0, NAMES - 1) + LETTERS.charAt(i);
            int place = text.lastIndexOf('A' + NAMES - 1);
            String faulty = named(text, names);
            Kit.fault(3, faulty.substring(0, place) + "^" + faulty.substring(place));
        }
        for (int i = 1; i < NAMES; i++) {
            String names = LETTERS.substring(0, i) + LETTERS.charAt(i - 1) + LETTERS.substring(i + 1);
            int place = text.indexOf('A' + i);
            String faulty = named(text, names);
            Kit.fault(3, faulty.substring(0, place) + "^" + faulty.substring(place));
        }
    }

    private static void hundredStatesOfEach() { // the last state and the last pair are looked at, and none behind them
        FinerSteps x = Kit.of("machine a;var n from 0 to 9 at 9;var m from 0 to 9 at 9;event go when n + m < 18 do n = n;variant n * 10 + m;"
                + "machine b;var x from 0 to 9 at 9;var y from 0 to 9 at 9;event hop of go when x + y < 17 do x = x;variant x * 10 + y;"
                + "machine c;var u from 0 to 9 at 9;var v from 0 to 9 at 9;law u = x and v = y;event skip when 1 = 1 do u = 9, v = 9");
        for (int m = 0; m < 2; m++) {
            for (int state = 0; state < 100; state++) {
                Kit.due("variant(" + m + ", " + state + ")", x.variant(m, state), state);
            }
        }
        dueFailing(x, 0, 0, 4, 99, 0);
        dueFailing(x, 1, 0, 4, 89, 0);
        dueFailing(x, 1, 1, 4, 89, 0);
        Kit.due("STRONG: only 99 of a", x.cases(1, 0, 1), 97);
        Kit.due("the first", x.duty(1, 0, 1), 0);
        Kit.due("A", x.shown(0), 99);
        Kit.due("S", x.shown(1), 0);
        Kit.due("pairs of b", x.machine(1, 7), 10000);
        Kit.due("pairs of c", x.machine(2, 7), 100);
        Kit.due("KEEPS: all but the last pair", x.cases(2, 0, 0), 99);
        Kit.due("LESS: all, the last too", x.cases(2, 0, 2), 100);
        Kit.due("duty(2, 0, 4)", x.duty(2, 0, 4), 1);
        x.aside(2, 0, true);
        Kit.due("duty(2, 0, 4) with none", x.duty(2, 0, 4), 0);
    }

    private static void dueFailing(FinerSteps x, int m, int e, int duty, int state, int ahead) {
        Kit.due("duty(" + m + ", " + e + ", " + duty + ")", x.duty(m, e, duty), 0);
        Kit.due("A", x.shown(0), ahead);
        Kit.due("S", x.shown(1), state);
    }

    private static void namesOfAnEarlierText() { // they are told no more, nor are they asked for
        FinerSteps x = Kit.of("machine a;var n from 0 to 3 at 0;event e when 1 = 1 do n = 1");
        Kit.due("all of them as others", Kit.tell(x, "machine e;var a from 0 to 3 at 0;event n when 1 = 1 do a = 1"), 1);
        Kit.due("one that is no variable now", Kit.tell(x, "machine b;var c from 0 to 3 at 0;law n = 0"), -1);
        Kit.due("fault()", x.fault(), 3);
        Kit.due("names of the faulty one", Kit.tell(x, "machine c;var b from 0 to 3 at 0"), 1);
        Kit.due("an event of an earlier text", Kit.tell(x, "machine a;var b from 0 to 3 at 0;machine c;var d from 0 to 3 at 0;"
                + "event f of n when 1 = 1 do d = 0"), -1);
        Kit.due("fault()", x.fault(), 3);
    }

    private static void variablesOfAnEarlierText() { // where there were three, behind the one there is now
        String three = "machine a;var k from 0 to 1 at 0;var l from 0 to 1 at 0;var m from 0 to 1 at 0;"
                + "machine b;var x from 0 to 1 at 0;var y from 0 to 1 at 0;var z from 0 to 1 at 0;"
                + "event e when 1 = 1 do z = 0;event f when 1 = 1 do y = 0";
        String one = "machine a;var k from 0 to 1 at 0;machine b;var x from 0 to 1 at 0";
        for (String stale : new String[] {"l", "m", "y", "z"}) {
            FinerSteps x = Kit.of(three);
            Kit.tell(x, three);
            for (int round = 0; round < 2; round++) {
                Kit.due("law " + stale, Kit.tell(x, one + ";law " + stale + " = 0"), -1);
                Kit.due("where()", x.where(), one.length() + 5);
                Kit.due("fault()", x.fault(), 3);
                Kit.due("without it", Kit.tell(x, one), 2);
                Kit.dueNoLetter(x, 0, 1, 0);
                Kit.dueNoLetter(x, 1, 1, 0);
            }
        }
        for (String stale : new String[] {"e", "f"}) {
            FinerSteps x = Kit.of(three);
            Kit.tell(x, three);
            for (int round = 0; round < 2; round++) {
                Kit.due("of " + stale, Kit.tell(x, one + ";machine c;var u from 0 to 1 at 0;event g of " + stale
                        + " when 1 = 1 do u = 0"), -1);
                Kit.due("fault()", x.fault(), 3);
                Kit.tell(x, one);
            }
        }
    }

    private static void manyTextsBehindOneAnother() { // as many as 512 calls have room for
        FinerSteps x = new FinerSteps();
        for (int i = 0; i < 60; i++) {
            int from = i % 10;
            Kit.due("text " + i, Kit.tell(x, "machine a;var n from 0 to 9 at " + from + ";law n+1*1-1+0+0+0<" + (from + 1)
                    + ";event e when n=" + from + " do n=n+0+0"), 1);
            Kit.due("sound of " + i, x.machine(0, 6), from + 1);
            Kit.due("stays in " + i, x.stuck(0), -2);
        }
    }

    /** Every answer that a text alone makes out. */
    private static String tables(FinerSteps x) {
        List<Integer> all = new ArrayList<>();
        for (int m = 0; m < 3; m++) {
            for (int what = 0; what < 9; what++) {
                all.add(x.machine(m, what));
            }
            for (int v = 0; v < 3; v++) {
                for (int what = 0; what < 3; what++) {
                    all.add(x.variable(m, v, what));
                }
            }
            for (int e = 0; e < 4; e++) {
                addEvent(x, m, e, all);
            }
            for (int s = 0; s < x.machine(m, 3); s++) {
                all.add(x.sound(m, s));
                all.add(x.variant(m, s));
                all.add(x.steps(m, s));
                for (int i = 0; i < 100 && x.beneath(m, s, i) >= 0; i++) {
                    all.add(x.beneath(m, s, i));
                }
            }
            all.add(x.duty(m, 0, 3));
            all.add(x.duty(m, 0, 4));
            all.add(x.open(m));
            all.add(x.reach(m));
            all.add(x.stuck(m));
            all.add(x.unsound(m));
        }
        return all.toString();
    }

    private static void addEvent(FinerSteps x, int m, int e, List<Integer> all) {
        for (int what = 0; what < 5; what++) {
            all.add(x.event(m, e, what));
        }
        for (int duty = 0; duty < 3; duty++) {
            all.add(x.duty(m, e, duty));
            all.add(x.cases(m, e, duty));
            all.add(x.shown(0) * 10000 + x.shown(1) * 100 + x.shown(2));
        }
        for (int s = 0; s < x.machine(m, 3); s++) {
            for (int pick = x.event(m, e, 1); pick <= x.event(m, e, 2); pick++) {
                all.add(x.can(m, e, s, pick));
                all.add(x.gives(m, e, s, pick));
            }
        }
    }

    private static void eachBehindTwoOthers() { // the first n bytes are the machines from now on, nothing else
        for (String last : SHAPES) {
            String due = tables(Kit.of(last));
            for (String first : SHAPES) {
                for (String second : SHAPES) {
                    FinerSteps x = Kit.of(first);
                    useAll(x);
                    Kit.tell(x, second);
                    useAll(x);
                    Kit.tell(x, last);
                    Kit.dueText("behind two others: " + last, tables(x), due);
                }
            }
        }
    }

    private static void useAll(FinerSteps x) {
        for (int m = 0; m < 3; m++) {
            x.open(m);
            x.run(m);
            x.draws(5, 3);
            x.aside(m, 0, true);
            x.duty(m, 0, 4);
        }
    }

    private static void eachBehindFaultyOnes() { // what was read of a faulty text leaves no trace
        for (String text : SHAPES) {
            String due = tables(Kit.of(text));
            for (String faulty : SHAPES) {
                FinerSteps x = Kit.of(text);
                Kit.due("a faulty one", Kit.tell(x, faulty + ";law zz = 1"), -1);
                Kit.dueText("the text stays: " + text, tables(x), due);
                Kit.due("a faulty one", Kit.tell(x, faulty + ";law zz = 1"), -1);
                Kit.tell(x, text);
                Kit.dueText("the text again: " + text, tables(x), due);
            }
        }
    }
}
