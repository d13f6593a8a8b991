/** Promises 3, 4, 5 and the text's grammar: each fault at its place, marked by a ^ in the text. */
public final class FaultsTest {
    private static final String A = "machine a;var n from 0 to 3 at 0";
    private static final String AB = A + ";event go when n < 3 do n = n + 1;machine b;var x from 0 to 3 at 0";

    private static String times(String bit, int n) {
        return bit.repeat(n);
    }

    public static void main(String[] args) {
        form();
        bounds();
        names();
        many();
        lacks();
        leastOfOnePlace();
        fullTapes();
        Kit.end();
    }

    private static void form() {
        Kit.fault(1, "^");
        Kit.fault(1, "   ^");
        Kit.fault(1, "^foo");
        Kit.fault(1, "^; machine a");
        Kit.fault(1, "^a machine");
        Kit.fault(1, "machine^");
        Kit.fault(1, "machine   ^");
        Kit.fault(1, "machine ^machine");
        Kit.fault(1, "machine ^pick");
        Kit.fault(1, "machine ^1");
        Kit.fault(1, "^machinea");
        Kit.fault(1, "machine ^abcdefgh");
        Kit.fault(1, "machine a ^b");
        Kit.fault(1, "machine a;^");
        Kit.fault(1, "machine a;^;var n from 0 to 3 at 0");
        Kit.fault(1, "machine a^.");
        Kit.fault(1, "machine a^\n;var n from 0 to 3 at 0");
        Kit.fault(1, "machine ^A");
        Kit.fault(1, "machine a;var n ^to 3");
        Kit.fault(1, "machine a;var n from ^x to 3");
        Kit.fault(1, "machine a;var n from ^0003 to 3");
        Kit.fault(1, "machine a;var n from 0 to 3 at^");
        Kit.fault(1, A + ";^");
        Kit.fault(1, A + ";law^");
        Kit.fault(1, A + ";law ^pick < 1");
        Kit.fault(1, A + ";law n ^1");
        Kit.fault(1, A + ";law n < ^");
        Kit.fault(1, A + ";law n < 1 ^< 2");
        Kit.fault(1, A + ";law [n ^) < 1");
        Kit.fault(1, A + ";law (n^) < 1");
        Kit.fault(1, A + ";law (n < 1^]");
        Kit.fault(1, A + ";law (n < 1 ^;");
        Kit.fault(1, A + ";law n < ^(");
        Kit.fault(1, A + ";law not^");
        Kit.fault(1, A + ";law n < ^not");
        Kit.fault(1, A + ";law ^- 1 < n");
        Kit.fault(1, A + ";law n < 1 or ^or n < 2");
        Kit.fault(1, A + ";law n < 1^)");
        Kit.fault(1, A + ";law n < ^1000");
        Kit.fault(1, A + ";law n < 1^, n < 2");
        Kit.fault(1, A + ";variant ^pick");
        Kit.fault(1, A + ";variant n ^< 1");
        Kit.fault(1, A + ";variant ^(n)");
        Kit.fault(1, A + ";variant ^not n");
        Kit.fault(1, A + ";event e ^do n = 1");
        Kit.fault(1, A + ";event e any 1 ^, 2 when n < 1 do n = 1");
        Kit.fault(1, A + ";event e any 1 to 2 ^of f when n < 1 do n = 1");
        Kit.fault(1, A + ";event e of ^when n < 1 do n = 1");
        Kit.fault(1, A + ";event e when n < 1^");
        Kit.fault(1, A + ";event e when n < 1 do^");
        Kit.fault(1, A + ";event e when n < 1 do n ^< 1");
        Kit.fault(1, A + ";event e when n < 1 do n = 1,^");
        Kit.fault(1, A + ";event e when n < 1 do n = 1 ^and n = 2");
        Kit.fault(1, A + ";event e when n < 1 do ^pick = 2");
        Kit.fault(1, A + ";law n = 1^\u00e9");
        Kit.fine(1, "machine a;var n from0to5at0;law n<6and n>0or not(n=[3+1]*2)");
        Kit.fine(1, "  machine  abcdefg ; var gfedcba from 000 to 009 at 009  ");
        Kit.fine(1, A + ";event e when pick = 0 do n = pick");
        Kit.fine(1, A + ";variant 999");
        Kit.fine(1, A + ";variant n;law n < 4;event e when n < 1 do n = 1;law n < 5");
    }

    private static void bounds() {
        Kit.fault(2, "machine a;var n from ^10 to 3 at 0");
        Kit.fault(2, "machine a;var n from 3 to ^2 at 3");
        Kit.fault(2, "machine a;var n from 3 to ^10 at 3");
        Kit.fault(2, "machine a;var n from 3 to 5 at ^2");
        Kit.fault(2, "machine a;var n from 3 to 5 at ^6");
        Kit.fault(2, A + ";event e any ^100 to 101 when n < 1 do n = 1");
        Kit.fault(2, A + ";event e any 5 to ^4 when n < 1 do n = 1");
        Kit.fault(2, A + ";event e any 95 to ^100 when n < 1 do n = 1");
        Kit.fine(1, "machine a;var n from 9 to 9 at 9");
        Kit.fine(1, A + ";event e any 90 to 99 when n < 1 do n = 1");
        Kit.fine(1, A + ";event e any 0 to 0 when n < 1 do n = 1");
    }

    private static void names() {
        Kit.fault(3, "machine a;var ^a from 0 to 3 at 0");
        Kit.fault(3, A + ";var ^n from 0 to 3 at 0");
        Kit.fault(3, A + ";machine ^a");
        Kit.fault(3, A + ";machine ^n");
        Kit.fault(3, A + ";event ^n when n < 1 do n = 1");
        Kit.fault(3, A + ";event ^a when n < 1 do n = 1");
        Kit.fault(3, A + ";event e when n < 1 do n = 1;event ^e when n < 1 do n = 1");
        Kit.fault(3, AB + ";event ^go when x < 1 do x = 1");
        Kit.fault(3, AB + ";event hop when x < 1 do x = 1;machine ^go");
        Kit.fault(3, A + ";law ^m < 1");
        Kit.fault(3, A + ";law ^a < 1");
        Kit.fault(3, A + ";event e when ^e < 1 do n = 1");
        Kit.fault(3, A + ";event e of ^e when n < 1 do n = 1");
        Kit.fault(3, A + ";event f when n < 1 do n = 1;event e of ^f when n < 1 do n = 1");
        Kit.fault(3, AB + ";event f when x < 1 do x = 1;event e of ^f when x < 1 do x = 1");
        Kit.fault(3, AB + ";event f of ^n when x < 1 do x = 1");
        Kit.fault(3, AB + ";event f of ^b when x < 1 do x = 1");
        Kit.fault(3, A + ";event e when n < 1 do ^m = 1");
        Kit.fault(3, A + ";event e when n < 1 do n = 1, ^n = 2");
        Kit.fault(3, AB + ";event e when ^n < 1 do x = 1");
        Kit.fault(3, AB + ";event e when x < 1 do ^n = 1");
        Kit.fault(3, AB + ";event e when x < 1 do x = ^n");
        Kit.fault(3, AB + ";variant ^n");
        Kit.fault(3, AB + ";law n = x;machine c;var z from 0 to 1 at 0;law x = z;law ^n = z");
        Kit.fault(3, AB + ";machine c;var z from 0 to 1 at 0;event e of ^go when z < 1 do z = 1");
        Kit.fault(3, A + ";law n < 1 + ^m ?");
        Kit.fine(2, AB + ";law n = x;event hop of go when x < 3 do x = x + 1");
        Kit.fine(2, AB + ";event hop of go when x < 3 do x = x + 1;event hip of go when x < 3 do x = x + 1");
    }

    private static void many() {
        String three = A + ";machine b;var m from 0 to 1 at 0;machine c;var l from 0 to 1 at 0";
        Kit.fine(3, three);
        Kit.fault(4, three + ";^machine d");
        Kit.fault(4, three + ";^machine");
        String vars = "machine a;var x from 0 to 0 at 0;var y from 0 to 0 at 0;var z from 0 to 0 at 0";
        Kit.fine(1, vars);
        Kit.fault(4, vars + ";^var w");
        Kit.fault(4, A + ";law n < 9;^var m");
        Kit.fault(4, A + ";variant n;^var m");
        Kit.fault(4, A + ";event e when n < 1 do n = 1;^var m");
        Kit.fault(4, A + ";variant n;law n < 1;^variant n");
        Kit.fine(1, A + times(";law n < 9", 4));
        Kit.fault(4, A + times(";law n < 9", 4) + ";^law n < 9");
        String events = A;
        for (int e = 0; e < 4; e++) {
            events = events + ";event " + (char) ('e' + e) + " when n < 1 do n = 1";
        }
        Kit.fine(1, events);
        Kit.fault(4, events + ";^event z when n < 1 do n = 1");
        Kit.fine(2, events + ";machine b;var m from 0 to 1 at 0;law n = m;event z when m < 1 do m = 1");
        Kit.fine(1, A + ";event e any 0 to 9 when n < 1 do n = 1");
        Kit.fault(4, A + ";event e any 0 to ^10 when n < 1 do n = 1");
        Kit.fine(1, "machine a;var x from 0 to 9 at 0;var y from 0 to 9 at 0;var z from 9 to 9 at 9");
        Kit.fault(4, "machine a;var x from 0 to 9 at 0;var y from 0 to 9 at 0;var z from 8 to ^9 at 9");
        Kit.fault(4, "machine a;var x from 0 to 4 at 0;var y from 0 to 4 at 0;var z from 0 to ^4 at 9");
        opens();
        atoms();
    }

    private static void opens() {
        Kit.fine(1, A + ";law " + times("(", 8) + "n < 1" + times(")", 8));
        Kit.fault(4, A + ";law " + times("(", 8) + "^(n < 1" + times(")", 9));
        Kit.fine(1, A + ";law " + times("not ", 8) + "n < 1");
        Kit.fault(4, A + ";law " + times("not ", 8) + "^not n < 1");
        Kit.fine(1, A + ";law " + times("[", 8) + "n" + times("]", 8) + " < 1");
        Kit.fault(4, A + ";law " + times("[", 8) + "^[n" + times("]", 9) + " < 1");
        Kit.fault(4, A + ";law not (not (not (not not n < ^[1])))");
        Kit.fine(1, A + ";law not (not [n] < [1] and not ([n] > 2)) or not [[n]] = 1");
        Kit.fine(1, A + ";law " + times("not ", 8) + "n < 1 and " + times("not ", 8) + "n < 1 or " + times("(", 8)
                + "n < 1" + times(")", 8));
        Kit.fine(1, A + ";variant " + times("[", 8) + "1" + times("]", 8) + "+" + times("[", 8) + "1" + times("]", 8));
        Kit.fault(4, A + ";variant " + times("[", 8) + "^[1" + times("]", 9));
    }

    private static void atoms() {
        Kit.fine(1, A + ";variant 1" + times("+1", 29));
        Kit.fault(4, A + ";variant 1" + times("+1", 29) + "+^1");
        Kit.fault(4, A + ";variant 1" + times("*1", 29) + "-^n");
        Kit.fault(4, A + ";variant [1]" + times("+1", 28) + "+^1");
        Kit.fault(4, A + ";variant 1" + times("+1", 28) + "+[^1]");
        Kit.fault(4, A + ";variant 1" + times("+1", 29) + "+^[1]");
        Kit.fault(3, A + ";variant 1" + times("+1", 29) + "+^m");
        Kit.fine(1, A + ";law n<1" + times(" and n<1", 14));
        Kit.fault(4, A + ";law n<1" + times(" and n<1", 14) + " or ^n<1");
        Kit.fault(4, A + ";law (n<1" + times(" and n<1", 14) + ") or (^n<1)");
        Kit.fine(1, A + ";event e when 1<1" + times("+1", 28) + " do n=1" + times("+1", 29));
        Kit.fault(4, A + ";event e when 1<1" + times("+1", 28) + " do n=1" + times("+1", 29) + "+^pick");
        Kit.fine(1, "machine a;var n from 0 to 1 at 0;var m from 0 to 1 at 0;event e when n=1 do n=1" + times("+1", 29)
                + ",m=1" + times("+1", 29));
    }

    private static void lacks() {
        Kit.fault(5, "^law n < 1");
        Kit.fault(5, "^var n from 0 to 3 at 0");
        Kit.fault(5, "^event e when 1 = 1 do n = 1");
        Kit.fault(5, "^variant");
        Kit.fault(5, "machine a^");
        Kit.fault(5, "machine a  ^");
        Kit.fault(5, "machine a;^machine b");
        Kit.fault(5, "machine a;^law 1 = 1");
        Kit.fault(5, "machine a;^event");
        Kit.fault(5, "machine a;^variant 1");
        Kit.fault(5, A + ";machine b^");
        Kit.fault(5, A + ";machine b;^machine c");
        Kit.fault(5, A + ";machine b;^law n = 1");
    }

    private static void leastOfOnePlace() {
        Kit.fault(4, A + ";machine b;var m from 0 to 1 at 0;machine c;^machine d");
        Kit.fault(2, "machine a;var x from 0 to 9 at 0;var y from 0 to 9 at 0;var z from 0 to ^10 at 9");
        Kit.fault(2, A + ";event e any 0 to ^100 when n < 1 do n = 1");
        Kit.fault(1, "machine a;^machineb");
    }

    /** 600 bytes, each a token of its own, or all one. */
    private static void fullTapes() {
        for (String sign : new String[] {";", ",", "=", "<", ">", "+", "-", "*", "(", ")", "[", "]", "a", "1", "?"}) {
            Kit.fault(1, "^" + times(sign, 600));
        }
        Kit.fault(1, A + ";law n*^" + times("*", 600 - A.length() - 7));
        Kit.fault(4, A + ";law " + times("(", 8) + "^" + times("(", 600 - A.length() - 13));
        Kit.fault(4, A + ";law " + times("[", 8) + "^" + times("[", 600 - A.length() - 13));
        Kit.fault(1, A + times(" ", 600 - A.length() - 1) + ";^");
        Kit.fine(1, A + times(" ", 600 - A.length()));
        Kit.fine(1, A + ";law " + times("not ", 8) + "n<1" + times(" or " + times("not ", 8) + "n<1", 12));
    }
}
