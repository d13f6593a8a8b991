/** Promises 3, 4, 5 and the text's grammar: each fault at its place, marked by a ^ in the text. */
public final class FaultsTest {
    private static final String A = "machine a;var n from 0 to 3 at 0";
    private static final String AB = A + ";event go when n < 3 do n = n + 1;machine b;var x from 0 to 3 at 0";

    private static void fault(int number, String marked) {
        int place = marked.indexOf('^');
        String text = marked.substring(0, place) + marked.substring(place + 1);
        FinerSteps x = new FinerSteps();
        Kit.due("machines of " + text, Kit.tell(x, text), -1);
        Kit.due("trouble() of " + text, x.trouble(), 4);
        Kit.due("fault() of " + text, x.fault(), number);
        Kit.due("where() of " + text, x.where(), place);
        Kit.due("size() of " + text, x.size(), 0);
        Kit.due("machine(0, 0) of " + text, x.machine(0, 0), -1);
        Kit.due("where() later of " + text, x.where(), -1);
        Kit.due("fault() later of " + text, x.fault(), number);
    }

    private static void fine(int machines, String text) {
        FinerSteps x = new FinerSteps();
        Kit.due("machines of " + text, Kit.tell(x, text), machines);
        Kit.due("fault() of " + text + " at " + x.where(), x.fault(), 0);
    }

    private static String times(String bit, int n) {
        return bit.repeat(n);
    }

    public static void main(String[] args) {
        form();
        bounds();
        names();
        many();
        lacks();
        leastOfOnePlace();
        fullTapes();
        Kit.end();
    }

    private static void form() {
        fault(1, "^");
        fault(1, "   ^");
        fault(1, "^foo");
        fault(1, "^; machine a");
        fault(1, "^a machine");
        fault(1, "machine^");
        fault(1, "machine   ^");
        fault(1, "machine ^machine");
        fault(1, "machine ^pick");
        fault(1, "machine ^1");
        fault(1, "^machinea");
        fault(1, "machine ^abcdefgh");
        fault(1, "machine a ^b");
        fault(1, "machine a;^");
        fault(1, "machine a;^;var n from 0 to 3 at 0");
        fault(1, "machine a^.");
        fault(1, "machine a^\n;var n from 0 to 3 at 0");
        fault(1, "machine ^A");
        fault(1, "machine a;var n ^to 3");
        fault(1, "machine a;var n from ^x to 3");
        fault(1, "machine a;var n from ^0003 to 3");
        fault(1, "machine a;var n from 0 to 3 at^");
        fault(1, A + ";^");
        fault(1, A + ";law^");
        fault(1, A + ";law ^pick < 1");
        fault(1, A + ";law n ^1");
        fault(1, A + ";law n < ^");
        fault(1, A + ";law n < 1 ^< 2");
        fault(1, A + ";law [n ^) < 1");
        fault(1, A + ";law (n^) < 1");
        fault(1, A + ";law (n < 1^]");
        fault(1, A + ";law (n < 1 ^;");
        fault(1, A + ";law n < ^(");
        fault(1, A + ";law not^");
        fault(1, A + ";law n < ^not");
        fault(1, A + ";law ^- 1 < n");
        fault(1, A + ";law n < 1 or ^or n < 2");
        fault(1, A + ";law n < 1^)");
        fault(1, A + ";law n < ^1000");
        fault(1, A + ";law n < 1^, n < 2");
        fault(1, A + ";variant ^pick");
        fault(1, A + ";variant n ^< 1");
        fault(1, A + ";variant ^(n)");
        fault(1, A + ";variant ^not n");
        fault(1, A + ";event e ^do n = 1");
        fault(1, A + ";event e any 1 ^, 2 when n < 1 do n = 1");
        fault(1, A + ";event e any 1 to 2 ^of f when n < 1 do n = 1");
        fault(1, A + ";event e of ^when n < 1 do n = 1");
        fault(1, A + ";event e when n < 1^");
        fault(1, A + ";event e when n < 1 do^");
        fault(1, A + ";event e when n < 1 do n ^< 1");
        fault(1, A + ";event e when n < 1 do n = 1,^");
        fault(1, A + ";event e when n < 1 do n = 1 ^and n = 2");
        fault(1, A + ";event e when n < 1 do ^pick = 2");
        fault(1, A + ";law n = 1^\u00e9");
        fine(1, "machine a;var n from0to5at0;law n<6and n>0or not(n=[3+1]*2)");
        fine(1, "  machine  abcdefg ; var gfedcba from 000 to 009 at 009  ");
        fine(1, A + ";event e when pick = 0 do n = pick");
        fine(1, A + ";variant 999");
        fine(1, A + ";variant n;law n < 4;event e when n < 1 do n = 1;law n < 5");
    }

    private static void bounds() {
        fault(2, "machine a;var n from ^10 to 3 at 0");
        fault(2, "machine a;var n from 3 to ^2 at 3");
        fault(2, "machine a;var n from 3 to ^10 at 3");
        fault(2, "machine a;var n from 3 to 5 at ^2");
        fault(2, "machine a;var n from 3 to 5 at ^6");
        fault(2, A + ";event e any ^100 to 101 when n < 1 do n = 1");
        fault(2, A + ";event e any 5 to ^4 when n < 1 do n = 1");
        fault(2, A + ";event e any 95 to ^100 when n < 1 do n = 1");
        fine(1, "machine a;var n from 9 to 9 at 9");
        fine(1, A + ";event e any 90 to 99 when n < 1 do n = 1");
        fine(1, A + ";event e any 0 to 0 when n < 1 do n = 1");
    }

    private static void names() {
        fault(3, "machine a;var ^a from 0 to 3 at 0");
        fault(3, A + ";var ^n from 0 to 3 at 0");
        fault(3, A + ";machine ^a");
        fault(3, A + ";machine ^n");
        fault(3, A + ";event ^n when n < 1 do n = 1");
        fault(3, A + ";event ^a when n < 1 do n = 1");
        fault(3, A + ";event e when n < 1 do n = 1;event ^e when n < 1 do n = 1");
        fault(3, AB + ";event ^go when x < 1 do x = 1");
        fault(3, AB + ";event hop when x < 1 do x = 1;machine ^go");
        fault(3, A + ";law ^m < 1");
        fault(3, A + ";law ^a < 1");
        fault(3, A + ";event e when ^e < 1 do n = 1");
        fault(3, A + ";event e of ^e when n < 1 do n = 1");
        fault(3, A + ";event f when n < 1 do n = 1;event e of ^f when n < 1 do n = 1");
        fault(3, AB + ";event f when x < 1 do x = 1;event e of ^f when x < 1 do x = 1");
        fault(3, AB + ";event f of ^n when x < 1 do x = 1");
        fault(3, AB + ";event f of ^b when x < 1 do x = 1");
        fault(3, A + ";event e when n < 1 do ^m = 1");
        fault(3, A + ";event e when n < 1 do n = 1, ^n = 2");
        fault(3, AB + ";event e when ^n < 1 do x = 1");
        fault(3, AB + ";event e when x < 1 do ^n = 1");
        fault(3, AB + ";event e when x < 1 do x = ^n");
        fault(3, AB + ";variant ^n");
        fault(3, AB + ";law n = x;machine c;var z from 0 to 1 at 0;law x = z;law ^n = z");
        fault(3, AB + ";machine c;var z from 0 to 1 at 0;event e of ^go when z < 1 do z = 1");
        fault(3, A + ";law n < 1 + ^m ?");
        fine(2, AB + ";law n = x;event hop of go when x < 3 do x = x + 1");
        fine(2, AB + ";event hop of go when x < 3 do x = x + 1;event hip of go when x < 3 do x = x + 1");
    }

    private static void many() {
        String three = A + ";machine b;var m from 0 to 1 at 0;machine c;var l from 0 to 1 at 0";
        fine(3, three);
        fault(4, three + ";^machine d");
        fault(4, three + ";^machine");
        String vars = "machine a;var x from 0 to 0 at 0;var y from 0 to 0 at 0;var z from 0 to 0 at 0";
        fine(1, vars);
        fault(4, vars + ";^var w");
        fault(4, A + ";law n < 9;^var m");
        fault(4, A + ";variant n;^var m");
        fault(4, A + ";event e when n < 1 do n = 1;^var m");
        fault(4, A + ";variant n;law n < 1;^variant n");
        fine(1, A + times(";law n < 9", 4));
        fault(4, A + times(";law n < 9", 4) + ";^law n < 9");
        String events = A;
        for (int e = 0; e < 4; e++) {
            events = events + ";event " + (char) ('e' + e) + " when n < 1 do n = 1";
        }
        fine(1, events);
        fault(4, events + ";^event z when n < 1 do n = 1");
        fine(2, events + ";machine b;var m from 0 to 1 at 0;law n = m;event z when m < 1 do m = 1");
        fine(1, A + ";event e any 0 to 9 when n < 1 do n = 1");
        fault(4, A + ";event e any 0 to ^10 when n < 1 do n = 1");
        fine(1, "machine a;var x from 0 to 9 at 0;var y from 0 to 9 at 0;var z from 9 to 9 at 9");
        fault(4, "machine a;var x from 0 to 9 at 0;var y from 0 to 9 at 0;var z from 8 to ^9 at 9");
        fault(4, "machine a;var x from 0 to 4 at 0;var y from 0 to 4 at 0;var z from 0 to ^4 at 9");
        opens();
        atoms();
    }

    private static void opens() {
        fine(1, A + ";law " + times("(", 8) + "n < 1" + times(")", 8));
        fault(4, A + ";law " + times("(", 8) + "^(n < 1" + times(")", 9));
        fine(1, A + ";law " + times("not ", 8) + "n < 1");
        fault(4, A + ";law " + times("not ", 8) + "^not n < 1");
        fine(1, A + ";law " + times("[", 8) + "n" + times("]", 8) + " < 1");
        fault(4, A + ";law " + times("[", 8) + "^[n" + times("]", 9) + " < 1");
        fault(4, A + ";law not (not (not (not not n < ^[1])))");
        fine(1, A + ";law not (not [n] < [1] and not ([n] > 2)) or not [[n]] = 1");
        fine(1, A + ";law " + times("not ", 8) + "n < 1 and " + times("not ", 8) + "n < 1 or " + times("(", 8)
                + "n < 1" + times(")", 8));
        fine(1, A + ";variant " + times("[", 8) + "1" + times("]", 8) + "+" + times("[", 8) + "1" + times("]", 8));
        fault(4, A + ";variant " + times("[", 8) + "^[1" + times("]", 9));
    }

    private static void atoms() {
        fine(1, A + ";variant 1" + times("+1", 29));
        fault(4, A + ";variant 1" + times("+1", 29) + "+^1");
        fault(4, A + ";variant 1" + times("*1", 29) + "-^n");
        fault(4, A + ";variant [1]" + times("+1", 28) + "+^1");
        fault(4, A + ";variant 1" + times("+1", 28) + "+[^1]");
        fault(4, A + ";variant 1" + times("+1", 29) + "+^[1]");
        fault(3, A + ";variant 1" + times("+1", 29) + "+^m");
        fine(1, A + ";law n<1" + times(" and n<1", 14));
        fault(4, A + ";law n<1" + times(" and n<1", 14) + " or ^n<1");
        fault(4, A + ";law (n<1" + times(" and n<1", 14) + ") or (^n<1)");
        fine(1, A + ";event e when 1<1" + times("+1", 28) + " do n=1" + times("+1", 29));
        fault(4, A + ";event e when 1<1" + times("+1", 28) + " do n=1" + times("+1", 29) + "+^pick");
        fine(1, "machine a;var n from 0 to 1 at 0;var m from 0 to 1 at 0;event e when n=1 do n=1" + times("+1", 29)
                + ",m=1" + times("+1", 29));
    }

    private static void lacks() {
        fault(5, "^law n < 1");
        fault(5, "^var n from 0 to 3 at 0");
        fault(5, "^event e when 1 = 1 do n = 1");
        fault(5, "^variant");
        fault(5, "machine a^");
        fault(5, "machine a  ^");
        fault(5, "machine a;^machine b");
        fault(5, "machine a;^law 1 = 1");
        fault(5, "machine a;^event");
        fault(5, "machine a;^variant 1");
        fault(5, A + ";machine b^");
        fault(5, A + ";machine b;^machine c");
        fault(5, A + ";machine b;^law n = 1");
    }

    private static void leastOfOnePlace() {
        fault(4, A + ";machine b;var m from 0 to 1 at 0;machine c;^machine d");
        fault(2, "machine a;var x from 0 to 9 at 0;var y from 0 to 9 at 0;var z from 0 to ^10 at 9");
        fault(2, A + ";event e any 0 to ^100 when n < 1 do n = 1");
        fault(1, "machine a;^machineb");
    }

    /** 600 bytes, each a token of its own, or all one. */
    private static void fullTapes() {
        for (String sign : new String[] {";", ",", "=", "<", ">", "+", "-", "*", "(", ")", "[", "]", "a", "1", "?"}) {
            fault(1, "^" + times(sign, 600));
        }
        fault(1, A + ";law n*^" + times("*", 600 - A.length() - 7));
        fault(4, A + ";law " + times("(", 8) + "^" + times("(", 600 - A.length() - 13));
        fault(4, A + ";law " + times("[", 8) + "^" + times("[", 600 - A.length() - 13));
        fault(1, A + times(" ", 600 - A.length() - 1) + ";^");
        fine(1, A + times(" ", 600 - A.length()));
        fine(1, A + ";law " + times("not ", 8) + "n<1" + times(" or " + times("not ", 8) + "n<1", 12));
    }
}
