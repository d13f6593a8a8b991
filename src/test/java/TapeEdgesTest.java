import java.util.Map;

/** Boundary cases of promises 1 to 5, 33 and 34: no text, the tape, machines(), fault(), where(), trouble(). */
public final class TapeEdgesTest {
    private static final int BLANKS = 0x20202020;
    /** Both machines have an event; the second has a variant and a duty that fails. */
    private static final String TWO = "machine a;var n from 0 to 3 at 0;event go when n < 3 do n = n + 1;"
            + "machine b;var x from 0 to 3 at 0;law x = n;event hop of go when x < 3 do x = x + 2;variant x";
    private static final String ONE = "machine c;var k from 0 to 1 at 1";

    public static void main(String[] args) {
        noText();
        noTextAheadOfBadNumbers();
        feedPutsHighestByteFirst();
        feedOfNegativeNumbers();
        feedUpToTheLastByte();
        feedBeyondChangesNothing();
        feedBeyondKeepsTheBytes();
        feedLeavesTrouble();
        machinesOfTooFewOrTooMany();
        machinesOfNothing();
        machinesOfOnlySome();
        machinesThatCutTokens();
        machinesOfAFullTape();
        machinesOfStaleBytes();
        machinesForgetsWhatWasDone();
        machinesRefusedByTwo();
        machinesRefusedByFour();
        machinesHowMany();
        faultAheadOfAny();
        faultBehindEach();
        whereAheadOfAny();
        whereTillTheNext();
        whereBehindEachOther();
        sizeOfTheTape();
        troubleOfEachNumber();
        troubleThatStays();
        Kit.end();
    }

    /** Behind a run, an act, a case shown and written: all that a refused call may not change. */
    private static FinerSteps used() {
        FinerSteps x = Kit.of(TWO);
        x.run(1);
        x.step(0, 0);
        Kit.due("a case is shown", x.duty(1, 0, 0), 0);
        x.write();
        x.aside(1, 0, true);
        return x;
    }

    private static void noText() { // promise 1
        for (Map.Entry<String, Edge.Call> call : Edge.mayBeRefused().entrySet()) {
            FinerSteps x = new FinerSteps();
            int answer = call.getKey().equals("variant") ? 0 : -1;
            Edge.refused(x, 1, answer, "no text: " + call.getKey(), call.getValue());
        }
        FinerSteps x = new FinerSteps();
        Kit.due("no text: trouble()", x.trouble(), 0);
        Kit.due("no text: fault()", x.fault(), 0);
        Kit.due("no text: where()", x.where(), -1);
        Kit.due("no text: size()", x.size(), 0);
        for (int what = 0; what < 3; what++) {
            Kit.due(x, "no text: shown(" + what + ")", x.shown(what), -2, 0);
        }
        Edge.answers(x, -2, "no text: octet(0)", y -> y.octet(0));
        Edge.refused(x, 5, "no text: write()", y -> y.write());
        Edge.throwsNone(x, 0, -1, 0);
        Edge.throwsNone(x, 0, 0, 0);
    }

    private static void noTextAheadOfBadNumbers() { // promise 1: 1 is told ahead of 2 and 5
        FinerSteps x = new FinerSteps();
        Edge.refused(x, 1, "no text: can by no pick", y -> y.can(0, 0, 0, -1));
        Edge.refused(x, 1, "no text: gives by no pick", y -> y.gives(0, 0, 0, -1));
        Edge.refused(x, 1, "no text: step by no pick", y -> y.step(0, -1));
        Edge.refused(x, 1, "no text: draws(0, -1)", y -> y.draws(0, -1));
        Edge.refused(x, 1, "no text: aside(0, 0, false)", y -> y.aside(0, 0, false));
    }

    private static int feedOne(FinerSteps x, int place, int sign) {
        int[] f = {BLANKS, BLANKS, BLANKS, BLANKS, BLANKS};
        int shift = 24 - 8 * (place % 4);
        f[place / 4] = f[place / 4] & ~(255 << shift) | (sign & 255) << shift;
        return x.feed(f[0], f[1], f[2], f[3], f[4]);
    }

    private static void feedPutsHighestByteFirst() { // promise 2
        for (int place = 0; place < 20; place++) {
            FinerSteps x = new FinerSteps();
            Kit.due("feed", feedOne(x, place, '?'), 20);
            x.machines(20);
            Kit.due("where() of a ? at " + place, x.where(), place);
        }
        FinerSteps y = Kit.of("machine abcdefg;var hijklmn from 0 to 1 at 0;var opqrstu from 0 to 1 at 0;"
                + "var vwxyz from 0 to 1 at 0");
        Kit.dueText("name", Edge.name(y, 0, -1), "abcdefg");
        Kit.dueText("name", Edge.name(y, 0, 0), "hijklmn");
        Kit.dueText("name", Edge.name(y, 0, 1), "opqrstu");
        Kit.dueText("name", Edge.name(y, 0, 2), "vwxyz");
    }

    private static void feedOfNegativeNumbers() { // promise 2: no byte leans on the one beside it
        for (int place = 0; place < 20; place++) {
            for (int sign : new int[] {0, 127, 128, 160, 255}) {
                FinerSteps x = new FinerSteps();
                feedOne(x, place, sign);
                x.machines(20);
                Kit.due("fault() of a " + sign, x.fault(), 1);
                Kit.due("where() of a " + sign + " at " + place, x.where(), place);
            }
        }
        FinerSteps x = new FinerSteps();
        Kit.due("feed of the least", x.feed(Edge.LEAST, Edge.LEAST, Edge.LEAST, Edge.LEAST, Edge.LEAST), 20);
        Kit.due("feed of the most", x.feed(Edge.MOST, Edge.MOST, Edge.MOST, Edge.MOST, Edge.MOST), 40);
        Kit.due("feed of -1", x.feed(-1, -1, -1, -1, -1), 60);
    }

    private static FinerSteps full() {
        FinerSteps x = new FinerSteps();
        Kit.feed(x, ONE + " ".repeat(600 - ONE.length()));
        return x;
    }

    private static void feedUpToTheLastByte() { // promise 2
        FinerSteps x = new FinerSteps();
        for (int bytes = 20; bytes <= 600; bytes += 20) {
            Kit.due("feed up to " + bytes, x.feed(BLANKS, BLANKS, BLANKS, BLANKS, BLANKS), bytes);
            Kit.due("size()", x.size(), bytes);
        }
    }

    private static void feedBeyondChangesNothing() { // promise 2
        FinerSteps x = full();
        String before = Edge.look(x);
        for (int i = 0; i < 3; i++) {
            Kit.due("feed beyond 600", x.feed(-1, -1, -1, -1, -1), -1);
            Kit.due("size()", x.size(), 600);
        }
        Kit.dueText("feed beyond 600: nothing changes", Edge.look(x), before);
    }

    private static void feedBeyondKeepsTheBytes() { // promise 2
        FinerSteps x = full();
        x.feed(-1, -1, -1, -1, -1);
        Kit.due("machines(600) behind a feed that was too much", x.machines(600), 1);
        Kit.due("feed into the tape that is empty again", x.feed(BLANKS, BLANKS, BLANKS, BLANKS, BLANKS), 20);
    }

    private static void feedLeavesTrouble() { // promises 2, 34: no number is told of it
        FinerSteps x = full();
        x.machine(0, 0);
        Kit.due("feed beyond", x.feed(0, 0, 0, 0, 0), -1);
        Kit.due("trouble() stays 1", x.trouble(), 1);
        x.shown(0);
        Kit.due("feed beyond", x.feed(0, 0, 0, 0, 0), -1);
        Kit.due("trouble() stays 0", x.trouble(), 0);
        FinerSteps y = new FinerSteps();
        y.machines(0);
        Kit.due("feed", y.feed(0, 0, 0, 0, 0), 20);
        Kit.due("trouble() stays 4", y.trouble(), 4);
        Kit.due("where() stays", y.where(), 0);
    }

    private static void machinesOfTooFewOrTooMany() { // promise 3
        FinerSteps x = new FinerSteps();
        for (int n : new int[] {Edge.LEAST, -1, 1, 20, 600, 601, Edge.MOST}) {
            Edge.refused(x, 2, "an empty tape: machines(" + n + ")", y -> y.machines(n));
        }
        Kit.feed(x, ONE);
        for (int n : new int[] {Edge.LEAST, -1, 41, 600, 601, Edge.MOST}) {
            Edge.refused(x, 2, "40 bytes: machines(" + n + ")", y -> y.machines(n));
        }
        Edge.answers(x, 1, "40 bytes: machines(40)", y -> y.machines(40));
        FinerSteps z = full();
        Edge.refused(z, 2, "600 bytes: machines(601)", y -> y.machines(601));
        Edge.answers(z, 1, "600 bytes: machines(600)", y -> y.machines(600));
    }

    private static void machinesOfNothing() { // promise 3: 0 bytes are no text
        FinerSteps x = new FinerSteps();
        Kit.due(x, "an empty tape: machines(0)", x.machines(0), -1, 4);
        Kit.due("fault()", x.fault(), 1);
        x.machines(0);
        Kit.due("where()", x.where(), 0);
        Kit.feed(x, ONE);
        Kit.due(x, "40 bytes: machines(0)", x.machines(0), -1, 4);
        Kit.due("where()", x.where(), 0);
        Kit.due("the tape is empty", x.size(), 0);
    }

    private static void machinesOfOnlySome() { // promise 3: those behind the first n are gone, too
        FinerSteps x = new FinerSteps();
        Kit.feed(x, ONE + "???" + ONE);
        Kit.due(x, "the first bytes", x.machines(ONE.length()), 1, 0);
        Kit.due("size()", x.size(), 0);
        Edge.refused(x, 2, "nothing is left", y -> y.machines(1));
        Kit.feed(x, ONE + "???");
        Kit.due(x, "one byte more", x.machines(ONE.length() + 1), -1, 4);
        Kit.due("where()", x.where(), ONE.length());
    }

    private static void machinesThatCutTokens() { // promise 3: what lies beyond n is not looked at
        FinerSteps x = new FinerSteps();
        Kit.feed(x, ONE + "0");
        Kit.due("at 1 of at 10", x.machines(ONE.length()), 1);
        Kit.feed(x, "machine abcdefgh");
        x.machines(15);
        Kit.due("seven letters of eight: fault()", x.fault(), 5);
        Kit.due("seven letters of eight: where()", whereOf(x, "machine abcdefgh", 15), 15);
        Kit.due("all eight: where()", whereOf(x, "machine abcdefgh", 16), 8);
        Kit.due("seven letters of machine", whereOf(x, "machinery", 7), 7);
        Kit.due("six letters of machine", whereOf(x, "machinery", 6), 0);
        String digits = ONE + ";variant 1234";
        Kit.feed(x, digits);
        Kit.due("three digits of four", x.machines(digits.length() - 1), 1);
        Kit.due("variant", x.variant(0, 0), 123);
    }

    private static int whereOf(FinerSteps x, String text, int n) {
        Kit.feed(x, text);
        x.machines(n);
        return x.where();
    }

    private static void machinesOfAFullTape() { // promise 3: the 600th byte counts
        String text = "machine z;var n from 0 to 9 at 0";
        FinerSteps x = Kit.of(" ".repeat(600 - text.length()) + text);
        Kit.due("begins with 0", x.machine(0, 4), 0);
        Kit.tell(x, " ".repeat(601 - text.length()) + text.substring(0, text.length() - 1));
        Kit.due("without its last byte: fault()", x.fault(), 1);
        x.machines(-1);
        Kit.due("where() of the end", whereOf(x, " ".repeat(600 - 10) + "machine b;", 600), 600);
        Kit.due("where() of the last byte", whereOf(x, " ".repeat(600 - 10) + "machine b?", 600), 599);
    }

    private static void machinesOfStaleBytes() { // promise 3: the tape is empty then
        FinerSteps x = Kit.of(TWO);
        Kit.due("a shorter one", Kit.tell(x, ONE), 1);
        Kit.feed(x, "machine a;");
        Kit.due(x, "bytes of earlier texts don't follow", x.machines(10), -1, 4);
        Kit.due("fault()", x.fault(), 1);
        Kit.due("where()", whereOf(x, "machine a;", 10), 10);
    }

    private static void machinesForgetsWhatWasDone() { // promise 3
        FinerSteps x = used();
        String written = Kit.written(x);
        Kit.due("the same text", Kit.tell(x, TWO), 2);
        Kit.due("none is put aside", x.event(1, 0, 4), 0);
        Edge.refused(x, 1, "no run: now(0)", y -> y.now(0));
        Edge.refused(x, 1, "no run: step(0, 0)", y -> y.step(0, 0));
        Edge.refused(x, 1, "no run: beside(0)", y -> y.beside(0));
        Edge.refused(x, 1, "no run: draws(1, 1)", y -> y.draws(1, 1));
        Edge.answers(x, -2, "none shown", y -> y.shown(0));
        Edge.refused(x, 5, "none to be written", y -> y.write());
        Kit.dueText("what was written stays", Kit.written(x), written);
        Kit.due("fewer machines", Kit.tell(x, ONE), 1);
        Edge.refused(x, 1, "the second is gone", y -> y.machine(1, 0));
        Edge.refused(x, 1, "the event is gone", y -> y.event(0, 0, 0));
        Edge.throwsNone(x, 1, -1, 0);
    }

    private static void machinesRefusedByTwo() { // promise 3: nothing changes, nor the tape
        FinerSteps x = used();
        Kit.feed(x, ONE);
        Edge.refused(x, 2, "machines(-1)", y -> y.machines(-1));
        Edge.refused(x, 2, "machines(41)", y -> y.machines(41));
        Kit.due("the tape is as it was", x.machines(ONE.length()), 1);
        Kit.dueText("its name", Edge.name(x, 0, -1), "c");
    }

    private static void machinesRefusedByFour() { // promise 3: all stays but fault(), where(), the tape
        FinerSteps x = used();
        String before = Edge.look(x);
        Kit.due(x, "a faulty text", Kit.tell(x, TWO + ";law y = 1"), -1, 4);
        Kit.due("where()", x.where(), TWO.length() + 5);
        Kit.due("the tape is empty", x.size(), 0);
        Kit.due("fault()", x.fault(), 3);
        Kit.dueText("all else is as it was", Edge.look(x), before.replace("fault 0", "fault 3"));
        Kit.due("what is shown can be written", x.write() > 0 ? 1 : 0, 1);
    }

    private static void machinesHowMany() { // promise 3
        String line = ";machine b;var m from 0 to 1 at 0";
        FinerSteps x = new FinerSteps();
        Kit.due("one", Kit.tell(x, ONE), 1);
        Kit.due("two", Kit.tell(x, ONE + line), 2);
        Kit.due("three", Kit.tell(x, ONE + line + ";machine d;var l from 0 to 1 at 0"), 3);
        Kit.due("four", Kit.tell(x, ONE + line + ";machine d;var l from 0 to 1 at 0;machine e"), -1);
        Kit.due("three stay", x.machine(2, 0), 1);
    }

    private static void faultAheadOfAny() { // promise 4
        FinerSteps x = new FinerSteps();
        Kit.due("fault() of a new one", x.fault(), 0);
        x.machines(5);
        Kit.due("fault() behind a 2 alone", x.fault(), 0);
        x.run(0);
        Kit.due("fault() behind a 1 alone", x.fault(), 0);
    }

    private static void faultBehindEach() { // promise 4
        String[] texts = {"machine", "machine a;var n from 10", "machine a;var a", ONE + ";law 1 = 1;var", "law"};
        FinerSteps x = new FinerSteps();
        for (int number = 1; number <= 5; number++) {
            Kit.tell(x, texts[number - 1]);
            Kit.due("fault() " + number, x.fault(), number);
            x.machines(-1);
            Kit.due("fault() " + number + " behind a 2", x.fault(), number);
            x.machine(9, 9);
            x.shown(0);
            Kit.due("fault() " + number + " behind other calls", x.fault(), number);
        }
        Kit.tell(x, ONE);
        Kit.due("fault() behind a text without one", x.fault(), 0);
        x.machines(-1);
        Kit.due("fault() behind a 2", x.fault(), 0);
    }

    private static void whereAheadOfAny() { // promise 5
        FinerSteps x = new FinerSteps();
        Kit.due("where() of a new one", x.where(), -1);
        x.machines(1);
        Kit.due("where() behind a 2", x.where(), -1);
        x.run(0);
        Kit.due("where() behind a 1", x.where(), -1);
        x.write();
        Kit.due("where() behind a 5", x.where(), -1);
        Kit.tell(x, ONE);
        Kit.due("where() without a fault", x.where(), -1);
    }

    private static void whereTillTheNext() { // promise 5: calls that may not be refused leave it
        FinerSteps x = Kit.of(ONE);
        Kit.tell(x, "machine a b");
        for (int round = 0; round < 2; round++) {
            Kit.due("where()", x.where(), 10);
            x.fault();
            x.size();
            x.trouble();
            x.feed(BLANKS, BLANKS, BLANKS, BLANKS, BLANKS);
            x.letter(0, -1, 0);
            Edge.throwsNone(x, 0, -1, 9);
        }
        Kit.due("where()", x.where(), 10);
        Kit.due(x, "machines(0) of no bytes", x.machines(0), -1, 4);
        Kit.due("where() of the latest", x.where(), 0);
    }

    private static void whereBehindEachOther() { // promise 5: any call that may be refused ends it
        for (Map.Entry<String, Edge.Call> call : Edge.mayBeRefused().entrySet()) {
            for (String text : new String[] {TWO, ""}) {
                FinerSteps x = new FinerSteps();
                Kit.tell(x, text);
                Kit.tell(x, "machine");
                Kit.due("where()", x.where(), 7);
                call.getValue().on(x);
                Kit.due("where() behind " + call.getKey(), x.where(), -1);
                Kit.due("fault() behind " + call.getKey(), x.fault(), 1);
            }
        }
        Edge.Call[] others = {x -> x.shown(0), x -> x.shown(9), x -> x.write(), x -> x.octet(0), x -> x.octet(-1),
            x -> x.machines(-1)};
        for (int i = 0; i < others.length; i++) {
            FinerSteps x = new FinerSteps();
            x.machines(0);
            others[i].on(x);
            Kit.due("where() behind one more, " + i, x.where(), -1);
        }
    }

    private static void sizeOfTheTape() { // promise 33
        FinerSteps x = new FinerSteps();
        Kit.due("size() of none", x.size(), 0);
        x.feed(0, 0, 0, 0, 0);
        Kit.due("size() of one feed", x.size(), 20);
        x.machines(21);
        Kit.due("size() behind a 2", x.size(), 20);
        x.machines(1);
        Kit.due("size() behind a 4", x.size(), 0);
        Kit.feed(x, ONE);
        x.machines(ONE.length());
        Kit.due("size() behind a text", x.size(), 0);
        Kit.due("size() of a full tape", full().size(), 600);
    }

    private static void troubleOfEachNumber() { // promise 34
        FinerSteps x = new FinerSteps();
        Kit.due("trouble() ahead of any", x.trouble(), 0);
        x.machines(1);
        Kit.due("2", x.trouble(), 2);
        x.machines(0);
        Kit.due("4", x.trouble(), 4);
        x.write();
        Kit.due("5", x.trouble(), 5);
        x.machine(0, 0);
        Kit.due("1", x.trouble(), 1);
        x.shown(0);
        Kit.due("0", x.trouble(), 0);
        for (Map.Entry<String, Edge.Call> call : Edge.mayBeRefused().entrySet()) {
            FinerSteps y = Kit.of(TWO);
            y.run(0);
            y.machine(9, 9);
            call.getValue().on(y);
            Kit.due("trouble() behind a " + call.getKey() + " that isn't refused", y.trouble(), 0);
        }
    }

    private static void troubleThatStays() { // promise 34
        FinerSteps x = Kit.of(TWO);
        x.can(0, 0, 0, 9);
        for (int i = 0; i < 2; i++) {
            Kit.due("trouble() is asked again", x.trouble(), 2);
            x.size();
            x.fault();
            x.where();
            x.letter(1, 0, 0);
            Edge.throwsNone(x, 1, 1, 0);
        }
    }
}
