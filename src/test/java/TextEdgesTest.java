/** Boundary cases of the text of promise 3: tokens, the numbers and counts of each line, names, places of faults. */
public final class TextEdgesTest {
    private static final String A = "machine a;var n from 0 to 3 at 0";
    private static final String B = ";machine b;var x from 0 to 3 at 0";
    private static final String C = ";machine c;var y from 0 to 3 at 0";
    private static final String DO = " when 1 = 1 do n = 1";
    private static final String[] RESERVED = {"machine", "var", "from", "to", "at", "law", "event", "of", "any",
        "when", "do", "variant", "or", "and", "not", "pick"};

    public static void main(String[] args) {
        bytesThatBeginNoToken();
        blanks();
        words();
        wholes();
        signsStandAlone();
        linesAndTheirEnds();
        reservedWordsAreNoNames();
        pickInAnEventAlone();
        upToThreeMachines();
        upToThreeVariables();
        variablesAheadOfOtherLines();
        lowHighAt();
        hundredStates();
        upToFourLaws();
        upToFourEvents();
        oneVariantOfEach();
        picksWithinBounds();
        tenPicks();
        namesToldAgain();
        namesOfAnotherKind();
        namesOfTheMachineAhead();
        givenTwice();
        eightOpen();
        eightOpenOnceMore();
        thirtyAtoms();
        thirtyAtomsOfEachSum();
        atomsInBrackets();
        lacksAMachine();
        lacksAVariable();
        firstFromTheLeft();
        leastOfOnePlace();
        theEndsPlace();
        Kit.end();
    }

    private static String times(String bit, int n) {
        return bit.repeat(n);
    }

    private static void bytesThatBeginNoToken() { // FORM at each byte but blanks, letters; ; ends a line
        for (int sign = 0; sign < 256; sign++) {
            boolean letter = sign >= 'a' && sign <= 'z';
            if (letter || sign == ' ' || sign == ';') {
                continue;
            }
            Kit.fault(1, "machine a^" + (char) sign + ";var n from 0 to 3 at 0");
            Kit.fault(1, "^" + (char) sign + "machine a");
        }
        for (int sign = 'a'; sign <= 'z'; sign++) {
            FinerSteps x = Kit.of("machine q" + (char) sign + ";var nn from 0 to 3 at 0");
            Kit.due("letter of " + (char) sign, x.letter(0, -1, 1), sign - 'a');
        }
    }

    private static void blanks() { // they part tokens and mean nothing else
        Kit.fine(1, "machine a;var n from 0 to 3 at 0");
        Kit.fine(1, "   machine   a   ;   var   n   from   0   to   3   at   0   ");
        Kit.fine(1, "machine a;var n from0to3at0;law n<3and not(n>[2+1]*1)or 1=1;event e any0to9when n<3do n=n+1");
        Kit.fault(1, "machine a ^b;var n from 0 to 3 at 0");
        Kit.fault(1, "^mac hine a");
        Kit.fault(1, "machine a;var n from 0 to 3 at 1 ^0");
        Kit.fault(1, "machine a^\t;var n from 0 to 3 at 0");
        Kit.fault(1, "machine a^" + (char) 160 + ";var n from 0 to 3 at 0");
    }

    private static void words() { // 1 to 7 letters
        Kit.fine(1, "machine a;var b from 0 to 3 at 0");
        Kit.fine(1, "machine abcdefg;var bcdefgh from 0 to 3 at 0;event cdefghi when 1 = 1 do bcdefgh = 1");
        Kit.fault(1, "machine ^abcdefgh");
        Kit.fault(1, "machine a;var ^abcdefgh from 0 to 3 at 0");
        Kit.fault(1, A + ";law ^abcdefgh = 1");
        Kit.fault(1, A + ";event ^abcdefgh" + DO);
        Kit.fault(1, A + B + ";event e of ^abcdefgh when 1 = 1 do x = 1");
        Kit.fault(1, A + ";event e when 1 = 1 do ^abcdefgh = 1");
        Kit.fault(1, "^machines a");
        Kit.fault(1, "^amachine a");
        Kit.fault(1, A + ";^variants 1");
        Kit.fault(1, "machine ^" + times("a", 592));
        Kit.fault(1, "machine a^B");
    }

    private static void wholes() { // 1 to 3 digits
        Kit.fine(1, "machine a;var n from 0 to 3 at 00");
        Kit.fine(1, "machine a;var n from 000 to 003 at 001");
        Kit.fault(1, "machine a;var n from ^0000 to 3 at 0");
        Kit.fault(1, "machine a;var n from 0 to ^0003 at 0");
        Kit.fault(1, "machine a;var n from 0 to 3 at ^0001");
        FinerSteps x = Kit.of(A + ";variant 999");
        Kit.due("999", x.variant(0, 0), 999);
        x = Kit.of(A + ";variant 000");
        Kit.due("000", x.variant(0, 0), 0);
        x = Kit.of(A + ";variant 010");
        Kit.due("010", x.variant(0, 0), 10);
        Kit.fault(1, A + ";variant ^1000");
        Kit.fault(1, A + ";variant ^0999");
        Kit.fault(1, A + ";variant 999 ^9");
        Kit.fault(1, A + ";event e any ^0000 to 1" + DO);
        Kit.fault(1, A + ";event e any 0 to ^0001" + DO);
    }

    private static void signsStandAlone() { // each sign is a token of its own
        Kit.fault(1, A + ";law n <^= 1");
        Kit.fault(1, A + ";law n =^= 1");
        Kit.fault(1, A + ";law n *^* 1 = 1");
        Kit.fault(1, A + ";law n < ^-1");
        Kit.fault(1, A + ";law n +^+ 1 = 1");
        Kit.fine(1, A + ";law [[n]]=[[1]]");
        Kit.fine(1, A + ";law((n=1))");
    }

    private static void linesAndTheirEnds() { // LINE {; LINE}
        Kit.fault(1, "^");
        Kit.fault(1, times(" ", 20) + "^");
        Kit.fault(1, "^;");
        Kit.fault(1, "^;" + A);
        Kit.fault(1, A + ";^");
        Kit.fault(1, A + ";^;law 1 = 1");
        Kit.fault(1, A + " ^, law 1 = 1");
        Kit.fault(1, A + " ^law 1 = 1");
        Kit.fault(1, A + ";^" + "n = 1");
        for (String word : RESERVED) {
            boolean begins = "machine var law event variant".contains(word) && word.length() > 2;
            if (!begins) {
                Kit.fault(1, "^" + word);
                Kit.fault(1, A + ";^" + word + " 1");
            }
        }
    }

    private static void reservedWordsAreNoNames() {
        for (String word : RESERVED) {
            Kit.fault(1, "machine ^" + word + ";var n from 0 to 3 at 0");
            Kit.fault(1, "machine a;var ^" + word + " from 0 to 3 at 0");
            Kit.fault(1, A + ";event ^" + word + DO);
            Kit.fault(1, A + B + ";event e of ^" + word + " when 1 = 1 do x = 1");
            Kit.fault(1, A + ";event e when 1 = 1 do ^" + word + " = 1");
            if (!word.equals("not")) {
                Kit.fault(1, A + ";law ^" + word + " = 1");
            }
            Kit.fault(1, A + ";law 1 = ^" + word);
            Kit.fault(1, A + ";variant ^" + word);
            Kit.fine(1, "machine " + word.charAt(0) + "z;var " + word.substring(1) + "z from 0 to 3 at 0");
        }
    }

    private static void pickInAnEventAlone() {
        Kit.fault(1, A + ";law ^pick = 1");
        Kit.fault(1, A + ";law 1 = [2 + ^pick]");
        Kit.fault(1, A + ";variant 1 + ^pick");
        Kit.fault(1, A + ";event e" + DO + " + pick;law ^pick = 1");
        Kit.fault(1, A + ";event e" + DO + " + pick;variant ^pick");
        Kit.fine(1, A + ";event e when pick = 0 do n = pick * [pick + 1]");
        Kit.fine(1, A + ";event e any 1 to 2 when not (pick = 1) do n = pick");
    }

    private static void upToThreeMachines() {
        Kit.fine(1, A);
        Kit.fine(2, A + B);
        Kit.fine(3, A + B + C);
        Kit.fault(4, A + B + C + ";^machine d");
        Kit.fault(4, A + B + C + ";^machine");
        Kit.fault(4, A + B + C + ";law 1 = 1;^machine ?");
        Kit.fault(1, "machine^");
        Kit.fault(1, "machine ^;");
        Kit.fault(1, "machine ^7");
    }

    private static void upToThreeVariables() {
        String line = " from 0 to 1 at 0";
        String three = "machine a;var n" + line + ";var m" + line + ";var k" + line;
        Kit.fine(1, "machine a;var n" + line);
        Kit.fine(1, "machine a;var n" + line + ";var m" + line);
        Kit.fine(1, three);
        Kit.fault(4, three + ";^var l" + line);
        Kit.fault(4, three + ";^var");
        Kit.fault(4, three + ";^var n" + line);
        Kit.fine(2, three + ";machine b;var l" + line + ";var i" + line + ";var j" + line);
        Kit.fault(4, three + ";machine b;var l" + line + ";var i" + line + ";var j" + line + ";^var h" + line);
    }

    private static void variablesAheadOfOtherLines() {
        String line = "var m from 0 to 1 at 0";
        Kit.fine(1, A + ";" + line);
        Kit.fault(4, A + ";law 1 = 1;^" + line);
        Kit.fault(4, A + ";event e" + DO + ";^" + line);
        Kit.fault(4, A + ";variant n;^" + line);
        Kit.fault(4, A + ";law 1 = 1;^var");
        Kit.fine(2, A + ";law 1 = 1;machine b;" + line);
        Kit.fine(2, A + ";variant n;machine b;" + line + ";var k from 0 to 1 at 0");
    }

    private static void lowHighAt() { // LOW 0 .. 9, HIGH LOW .. 9, AT LOW .. HIGH
        Kit.fine(1, "machine a;var n from 0 to 0 at 0");
        Kit.fine(1, "machine a;var n from 9 to 9 at 9");
        Kit.fine(1, "machine a;var n from 0 to 9 at 0");
        Kit.fine(1, "machine a;var n from 0 to 9 at 9");
        Kit.fault(2, "machine a;var n from ^10 to 10 at 10");
        Kit.fault(2, "machine a;var n from ^999 to 9 at 0");
        Kit.fault(2, "machine a;var n from 0 to ^10 at 0");
        Kit.fault(2, "machine a;var n from 0 to ^999 at 0");
        Kit.fault(2, "machine a;var n from 1 to ^0 at 1");
        Kit.fault(2, "machine a;var n from 9 to ^8 at 9");
        Kit.fault(2, "machine a;var n from 4 to 6 at ^3");
        Kit.fine(1, "machine a;var n from 4 to 6 at 4");
        Kit.fine(1, "machine a;var n from 4 to 6 at 6");
        Kit.fault(2, "machine a;var n from 4 to 6 at ^7");
        Kit.fault(2, "machine a;var n from 0 to 9 at ^10");
        Kit.fault(2, "machine a;var n from 0 to 9 at ^999");
    }

    private static String sizes(int one, int two, String three) {
        return "machine a;var n from 0 to " + (one - 1) + " at 0;var m from 0 to " + (two - 1) + " at 0;var k from 0 to "
                + three + " at 0";
    }

    private static void hundredStates() { // no product of three sizes is 101 .. 104
        Kit.fine(1, sizes(10, 10, "0"));
        Kit.fine(1, sizes(5, 5, "3"));
        Kit.fine(1, sizes(10, 2, "4"));
        Kit.fine(1, sizes(1, 10, "9"));
        Kit.fault(4, sizes(10, 10, "^1"));
        Kit.fault(4, sizes(3, 5, "^6"));
        Kit.fault(4, sizes(5, 5, "^4"));
        Kit.fault(4, sizes(10, 10, "^9"));
        Kit.fault(4, "machine a;var n from 0 to 9 at 0;var m from 0 to 9 at 0;var k from 0 to ^1");
        Kit.fine(1, "machine a;var n from 0 to 9 at 0;var m from 0 to 9 at 0;var k from 9 to 9 at 9");
        Kit.fine(2, sizes(10, 10, "0") + ";machine b;var x from 0 to 9 at 0;var y from 0 to 9 at 0");
        Kit.fault(4, sizes(10, 10, "0") + ";machine b;var x from 0 to 9 at 0;var y from 0 to 9 at 0;var z from 8 to ^9 at 8");
    }

    private static void upToFourLaws() {
        Kit.fine(1, A + times(";law 1 = 1", 4));
        Kit.fault(4, A + times(";law 1 = 1", 4) + ";^law 1 = 1");
        Kit.fault(4, A + times(";law 1 = 1", 4) + ";^law");
        Kit.fine(2, A + times(";law 1 = 1", 4) + B + times(";law 1 = 1", 4));
        Kit.fault(4, A + times(";law 1 = 1", 4) + B + times(";law 1 = 1", 4) + ";^law 1 = 1");
    }

    private static String events(int n, String of, String given) {
        StringBuilder b = new StringBuilder();
        for (int e = 0; e < n; e++) {
            b.append(";event ").append(given).append((char) ('e' + e)).append(of).append(" when 1 = 1 do ").append(given)
                    .append(" = 1");
        }
        return b.toString();
    }

    private static void upToFourEvents() {
        Kit.fine(1, A + events(4, "", "n"));
        Kit.fault(4, A + events(4, "", "n") + ";^event z" + DO);
        Kit.fault(4, A + events(4, "", "n") + ";^event ne" + DO);
        Kit.fault(4, A + events(4, "", "n") + ";^event");
        Kit.fine(2, A + events(4, "", "n") + B + events(4, " of nh", "x"));
        Kit.fault(4, A + events(4, "", "n") + B + events(4, " of nh", "x") + ";^event z" + DO);
    }

    private static void oneVariantOfEach() {
        Kit.fine(2, A + ";variant n" + B + ";variant x");
        Kit.fault(4, A + ";variant n;^variant n");
        Kit.fault(4, A + ";variant n;law 1 = 1;^variant");
        Kit.fault(4, A + B + ";variant x;^variant x");
    }

    private static void picksWithinBounds() { // 0 .. 99 both, the second not below the first
        Kit.fine(1, A + ";event e any 0 to 0" + DO);
        Kit.fine(1, A + ";event e any 99 to 99" + DO);
        Kit.fault(2, A + ";event e any ^100 to 100" + DO);
        Kit.fault(2, A + ";event e any ^999 to 0" + DO);
        Kit.fault(2, A + ";event e any 91 to ^100" + DO);
        Kit.fault(2, A + ";event e any 99 to ^100" + DO);
        Kit.fault(2, A + ";event e any 1 to ^0" + DO);
        Kit.fault(2, A + ";event e any 99 to ^98" + DO);
    }

    private static void tenPicks() { // an eleventh is told by the second
        Kit.fine(1, A + ";event e any 0 to 9" + DO);
        Kit.fault(4, A + ";event e any 0 to ^10" + DO);
        Kit.fine(1, A + ";event e any 90 to 99" + DO);
        Kit.fault(4, A + ";event e any 89 to ^99" + DO);
        Kit.fault(4, A + ";event e any 0 to ^99" + DO);
    }

    private static void namesToldAgain() { // once each in all: machines, variables, events, of whatever machine
        String own = A + ";event e" + DO;
        for (String name : new String[] {"a", "n", "e"}) {
            Kit.fault(3, own + ";machine ^" + name);
            Kit.fault(3, own + ";event ^" + name + DO);
            Kit.fault(3, own + ";machine b;var ^" + name + " from 0 to 1 at 0");
            Kit.fault(3, own + B + ";event ^" + name + " when 1 = 1 do x = 1");
            Kit.fault(3, own + B + C + ";event ^" + name + " when 1 = 1 do y = 1");
            Kit.fault(3, own + B + ";machine c;var ^" + name + " from 0 to 1 at 0");
        }
        Kit.fault(3, "machine a;var ^a from 0 to 1 at 0");
        Kit.fault(3, A + ";var ^n from 0 to 1 at 0");
        Kit.fine(1, "machine a;var aa from 0 to 1 at 0;var aaa from 0 to 1 at 0");
        Kit.fine(1, "machine ab;var ba from 0 to 1 at 0;var abcdefg from 0 to 1 at 0;event abcdef when 1 = 1 do ba = 1");
    }

    private static void namesOfAnotherKind() { // one that isn't what is asked there
        for (String name : new String[] {"a", "e", "z"}) {
            Kit.fault(3, A + ";event e" + DO + ";law ^" + name + " = 1");
            Kit.fault(3, A + ";event e" + DO + ";variant ^" + name);
            Kit.fault(3, A + ";event e when 1 = 1 do ^" + name + " = 1");
            Kit.fault(3, A + ";event e when ^" + name + " = 1 do n = 1");
            Kit.fault(3, A + ";event e when 1 = 1 do n = [1 + ^" + name + "]");
        }
        for (String name : new String[] {"a", "n", "b", "x", "g", "z"}) {
            Kit.fault(3, A + ";event e" + DO + B + ";event g of ^" + name + " when 1 = 1 do x = 1");
        }
        Kit.fault(3, A + ";event e of ^e" + DO);
        Kit.fault(3, A + ";event e" + DO + ";event f of ^e" + DO);
        Kit.fault(3, A + ";event e of ^z?");
    }

    private static void namesOfTheMachineAhead() { // its variables in a law alone, its events behind of; not two ahead
        String both = A + ";event e" + DO + B;
        Kit.fine(2, both + ";law n = x");
        Kit.fault(3, both + ";variant ^n");
        Kit.fault(3, both + ";event f when ^n = 1 do x = 1");
        Kit.fault(3, both + ";event f when 1 = 1 do ^n = 1");
        Kit.fault(3, both + ";event f when 1 = 1 do x = ^n");
        Kit.fine(2, both + ";event f of e when 1 = 1 do x = 1;event g of e when 1 = 1 do x = 1");
        Kit.fine(3, both + C + ";law x = y");
        Kit.fault(3, both + C + ";law ^n = y");
        Kit.fault(3, both + ";law n = x" + C + ";law x = ^n");
        Kit.fault(3, both + C + ";event f of ^e when 1 = 1 do y = 1");
        Kit.fault(3, A + ";law ^x = 1" + B);
    }

    private static void givenTwice() {
        String two = A + ";var m from 0 to 3 at 0;var k from 0 to 3 at 0;event e when 1 = 1 do ";
        Kit.fine(1, two + "n = 1, m = 1, k = 1");
        Kit.fine(1, two + "k = 1, n = 1, m = 1");
        Kit.fault(3, two + "n = 1, ^n = 1");
        Kit.fault(3, two + "n = 1, m = 1, ^n = 1");
        Kit.fault(3, two + "n = 1, m = 1, k = 1, ^k = 1");
        Kit.fault(3, two + "n = 1, m = 1, k = 1, ^z = 1");
        Kit.fault(1, two + "n = 1, m = 1, k = 1,^");
        Kit.fine(1, two + "n = 1;event f when 1 = 1 do n = 1");
        Kit.fault(1, two + "^;");
        Kit.fault(1, two + "n = 1 ^m = 1");
    }

    private static void eightOpen() { // a ninth ( [ not at once
        String[] opens = {"(", "not ", "["};
        String[] closes = {")", "", "]"};
        for (int i = 0; i < 3; i++) {
            String behind = i == 2 ? " = 1" : "";
            String inner = i == 2 ? "n" : "n = 1";
            Kit.fine(1, A + ";law " + times(opens[i], 8) + inner + times(closes[i], 8) + behind);
            Kit.fault(4, A + ";law " + times(opens[i], 8) + "^" + opens[i] + inner + times(closes[i], 9) + behind);
            Kit.fault(4, A + ";event e when " + times(opens[i], 8) + "^" + opens[i] + inner);
        }
        for (String open : opens) {
            Kit.fault(4, A + ";law " + times("(not ", 4) + "^" + open);
            Kit.fault(4, A + ";law " + times("not ", 7) + "(^" + open);
        }
        Kit.fine(1, A + ";law not (not (not (not n = 1)))");
        Kit.fault(4, A + ";law " + times("(not ", 4) + "n = ^[1]");
        Kit.fine(1, A + ";law " + times("(not ", 3) + "([n] = [1])" + times(")", 3));
        Kit.fine(1, A + ";event e when 1 = 1 do n = " + times("[", 8) + "1" + times("]", 8));
        Kit.fault(4, A + ";event e when 1 = 1 do n = " + times("[", 8) + "^[1");
        Kit.fine(1, A + ";variant " + times("[", 8) + "1" + times("]", 8));
        Kit.fault(4, A + ";variant " + times("[", 8) + "^[1");
    }

    private static void eightOpenOnceMore() { // what is closed no longer counts
        String eight = times("[", 8) + "1" + times("]", 8);
        Kit.fine(1, A + ";variant " + eight + " + " + eight + " * " + eight);
        Kit.fine(1, A + ";law " + eight + " = " + eight + " and " + eight + " < " + "1");
        String nots = times("not ", 8) + "n = 1";
        Kit.fine(1, A + ";law " + nots + " and " + nots + " or " + nots);
        String rounds = times("(", 8) + "n = 1" + times(")", 8);
        Kit.fine(1, A + ";law " + rounds + " and " + rounds + " or " + nots + " and " + eight + " = 1");
        Kit.fault(4, A + ";law " + rounds + " and " + times("(", 8) + "^(");
        Kit.fault(4, A + ";law (" + times("not ", 7) + "n = 1 and " + times("not ", 7) + "^not n = 1)");
        Kit.fine(1, A + ";law (" + times("not ", 7) + "n = 1 and " + times("not ", 7) + "n = 1)");
        Kit.fine(1, A + ";law 1 = " + eight + ";law " + rounds + ";variant " + eight);
    }

    private static void thirtyAtoms() { // a 31st, at it
        Kit.fine(1, A + ";law 1" + times("+1", 28) + " = 1");
        Kit.fault(4, A + ";law 1" + times("+1", 29) + " = ^1");
        Kit.fine(1, A + ";law n=1" + times(" or n=1", 14));
        Kit.fault(4, A + ";law n=1" + times(" or n=1", 14) + " or ^n=1");
        Kit.fault(4, A + ";law n=1" + times(" or n=1", 14) + " and not (^1=1)");
        Kit.fine(1, A + ";event e when pick" + times("*1", 28) + " = n do n = 1");
        Kit.fault(4, A + ";event e when 1" + times("-1", 28) + " = n + ^pick do n = 1");
        Kit.fine(1, A + ";variant n" + times("*n", 29));
        Kit.fault(4, A + ";variant n" + times("*n", 29) + "*^n");
        Kit.fault(4, A + ";variant n" + times("*n", 29) + "*^999");
        Kit.fine(1, A + ";event e when 1 = 1 do n = 1" + times("+1", 29));
        Kit.fault(4, A + ";event e when 1 = 1 do n = 1" + times("+1", 29) + "+^1");
    }

    private static void thirtyAtomsOfEachSum() { // each begins to count anew
        String most = "1" + times("+1", 29);
        String test = "1" + times("+1", 28) + "=1";
        Kit.fine(1, A + ";var m from 0 to 1 at 0;event e when " + test + " do n=" + most + ",m=" + most);
        Kit.fault(4, A + ";var m from 0 to 1 at 0;event e when " + test + " do n=" + most + ",m=" + most + "-^n");
        Kit.fine(1, A + ";law " + test + ";law " + test + ";variant " + most + ";law " + test);
    }

    private static void atomsInBrackets() { // [ SUM ] is one, and those in it
        Kit.fine(1, A + ";variant [1]" + times("+1", 28));
        Kit.fault(4, A + ";variant [1]" + times("+1", 28) + "+^1");
        Kit.fine(1, A + ";variant [1" + times("+1", 28) + "]");
        Kit.fault(4, A + ";variant [1" + times("+1", 28) + "+^1]");
        Kit.fine(1, A + ";variant 1" + times("+[1]", 14) + "+1");
        Kit.fault(4, A + ";variant 1" + times("+[1]", 14) + "+[^1]");
        Kit.fault(4, A + ";variant 1" + times("+[1]", 14) + "+1+^[1]");
        Kit.fine(1, A + ";law [[[[1]]]]+[[[[1]]]]+[[[[1]]]]+[[[[1]]]]+[[[[1]]]] = [[[1]]]+1");
        Kit.fault(4, A + ";law [[[[1]]]]+[[[[1]]]]+[[[[1]]]]+[[[[1]]]]+[[[[1]]]] = [[[1]]]+1+^1");
    }

    private static void lacksAMachine() { // a line but machine ahead of any
        for (String word : new String[] {"var", "law", "event", "variant"}) {
            Kit.fault(5, "^" + word);
            Kit.fault(5, "  ^" + word + " ?");
            Kit.fault(5, "^" + word + ";machine a");
        }
    }

    private static void lacksAVariable() {
        for (String word : new String[] {"law", "event", "variant"}) {
            Kit.fault(5, "machine a;^" + word);
            Kit.fault(5, "machine a;^" + word + ";var n from 0 to 3 at 0");
            Kit.fault(5, A + ";machine b;^" + word + " 1 = 1");
        }
        Kit.fault(5, "machine a^");
        Kit.fault(5, A + ";machine b^");
        Kit.fault(5, A + B + ";machine c^");
        Kit.fault(5, "machine a;^machine b");
        Kit.fault(5, "machine a;^machine");
        Kit.fault(5, A + ";machine b;^machine c");
    }

    private static void firstFromTheLeft() {
        Kit.fault(3, "machine a;var ^a from 10 to 3 at 0 ?");
        Kit.fault(2, "machine a;var n from ^10 to 3 at 0 ?");
        Kit.fault(1, "machine a;var n ^? from 10 to 3 at 0");
        Kit.fault(5, "machine a;^law ?");
        Kit.fault(4, A + ";variant 1;^variant ?");
        Kit.fault(3, A + ";law ^m ? 1");
        Kit.fault(2, A + ";event e any 5 to ^4 ?");
        Kit.fault(3, A + ";law n = 1 and ^m");
    }

    private static void leastOfOnePlace() {
        Kit.fault(2, sizes(10, 10, "^10"));
        Kit.fault(2, A + ";event e any 0 to ^100" + DO);
        Kit.fault(3, A + ";variant 1" + times("+1", 29) + "+^m");
        Kit.fault(1, A + ";variant 1" + times("+1", 29) + "+^pick");
        Kit.fault(1, A + ";variant 1" + times("+1", 29) + "+^1000");
        Kit.fault(1, A + ";variant " + times("[", 8) + "^(");
        Kit.fault(1, A + ";law " + times("(", 8) + "^)");
        Kit.fault(4, A + B + ";machine c;^machine d");
        Kit.fault(1, "machine a;^");
    }

    private static void theEndsPlace() { // behind all n bytes, blanks, too
        Kit.fault(1, "machine a;   ^");
        Kit.fault(1, A + ";law n <  ^");
        Kit.fault(5, "machine a     ^");
        Kit.fault(1, times(" ", 600) + "^");
        Kit.fault(5, "machine a" + times(" ", 591) + "^");
        Kit.fault(1, A + ";" + times(" ", 600 - A.length() - 1) + "^");
        for (String part : new String[] {"machine", "machine a;var", "machine a;var n", "machine a;var n from",
            "machine a;var n from 0", "machine a;var n from 0 to", "machine a;var n from 0 to 3",
            "machine a;var n from 0 to 3 at", A + ";law", A + ";law n", A + ";law n =", A + ";law n +", A + ";law (n = 1",
            A + ";law not", A + ";law [n", A + ";law n = 1 and", A + ";law n = 1 or", A + ";variant", A + ";variant n *",
            A + ";event", A + ";event e", A + ";event e any", A + ";event e any 1", A + ";event e any 1 to",
            A + ";event e any 1 to 2", A + ";event e when", A + ";event e when n = 1", A + ";event e when n = 1 do",
            A + ";event e when n = 1 do n", A + ";event e when n = 1 do n =", A + ";event e of"}) {
            Kit.fault(1, part + "^");
        }
    }
}
