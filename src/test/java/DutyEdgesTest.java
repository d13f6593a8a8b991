/** Boundary cases of promises 16 to 21: duties, the case that is shown, what is written of it. */
public final class DutyEdgesTest {
    private static final int KEEPS = 0;
    private static final int STRONG = 1;
    private static final int LESS = 2;
    private static final int BEGINS = 3;
    private static final int GOES_ON = 4;

    private static final String A = "machine a;var n from 0 to 3 at 0";
    private static final String B = ";machine b;var x from 0 to 3 at 0";
    /** The finer one skips a step of the first, so its event doesn't keep. */
    private static final String SKIPS = A + ";event go when n < 3 do n = n + 1" + B
            + ";law x = n;event hop of go when x < 3 do x = x + 2;variant x";

    public static void main(String[] args) {
        dutyOfNone();
        dutyOfAMachineByAnyEvent();
        keepsWithinBounds();
        keepsSound();
        keepsOfANewOne();
        keepsByWhatTheOtherGives();
        keepsByAnyPickOfTheOther();
        keepsWhereTheOtherIsAside();
        holdsWhereItCanNeverBe();
        holdsWhereNoneIsSound();
        strongOfOthers();
        strongBySomePick();
        lessOfOthers();
        lessToZero();
        lessBelowZeroOrEqual();
        lessWithoutAVariant();
        lessToNoState();
        lessOfWrappedVariants();
        beginsOfTheFirst();
        beginsOfOthers();
        goesOnOfTheFirst();
        goesOnWithoutEvents();
        goesOnOfOthers();
        firstByAThenSThenPick();
        shownOfNone();
        shownAheadOfAny();
        shownTillTheNext();
        shownOverRefusals();
        openOfNone();
        openNoneAndMost();
        openShowsNothing();
        casesOfNone();
        casesNoneAndMost();
        casesOfOthers();
        writeOfNone();
        writeShortestAndLongest();
        writeNumbersOfTwoDigits();
        writeOfTheMachineAsked();
        octetOfNone();
        octetFirstAndLast();
        octetStays();
        Kit.end();
    }

    private static void dueCase(FinerSteps x, int m, int e, int duty, int a, int s, int pick) {
        String call = "duty(" + m + ", " + e + ", " + duty + ")";
        Kit.due(x, call, x.duty(m, e, duty), 0, 0);
        Kit.due(x, call + ": A", x.shown(0), a, 0);
        Kit.due(x, call + ": S", x.shown(1), s, 0);
        Kit.due(x, call + ": PICK", x.shown(2), pick, 0);
    }

    private static void dueHolds(FinerSteps x, int m, int e, int duty) {
        String call = "duty(" + m + ", " + e + ", " + duty + ")";
        Kit.due(x, call, x.duty(m, e, duty), 1, 0);
        for (int what = 0; what < 3; what++) {
            Kit.due(x, call + ": none shown", x.shown(what), -2, 0);
        }
    }

    private static void dutyOfNone() { // promise 16
        FinerSteps x = Kit.of(SKIPS);
        x.duty(1, 0, KEEPS);
        for (int duty = 0; duty < 5; duty++) {
            int asked = duty;
            for (int m : Edge.outside(2)) {
                Edge.refused(x, 1, "duty(" + m + ", 0, " + duty + ")", y -> y.duty(m, 0, asked));
            }
        }
        for (int duty = 0; duty < 3; duty++) {
            int asked = duty;
            for (int e : Edge.outside(1)) {
                Edge.refused(x, 1, "duty(1, " + e + ", " + duty + ")", y -> y.duty(1, e, asked));
            }
        }
        for (int duty : Edge.outside(5)) {
            Edge.refused(x, 1, "duty(1, 0, " + duty + ")", y -> y.duty(1, 0, duty));
        }
        FinerSteps none = Kit.of(A);
        Edge.refused(none, 1, "no event: duty(0, 0, 0)", y -> y.duty(0, 0, 0));
    }

    private static void dutyOfAMachineByAnyEvent() { // promise 16: any e
        for (int e : new int[] {Edge.LEAST, -1, 0, 1, 4, 9, Edge.MOST}) {
            FinerSteps x = Kit.of(SKIPS);
            dueHolds(x, 0, e, BEGINS);
            dueHolds(x, 1, e, BEGINS);
            dueCase(x, 0, e, GOES_ON, 0, 3, 0);
            dueHolds(x, 1, e, GOES_ON);
            FinerSteps none = Kit.of(A);
            dueHolds(none, 0, e, BEGINS);
            dueCase(none, 0, e, GOES_ON, 0, 0, 0);
        }
    }

    private static void keepsWithinBounds() { // KEEPS: what it gives is a state
        FinerSteps x = Kit.of("machine a;var n from 2 to 4 at 2;event up when 1 = 1 do n = n + 1;"
                + "event down when 1 = 1 do n = n - 1;event well when n < 4 do n = n + 1;event good when n > 2 do n = n - 1");
        dueCase(x, 0, 0, KEEPS, 0, 2, 0);
        dueCase(x, 0, 1, KEEPS, 0, 0, 0);
        dueHolds(x, 0, 2, KEEPS);
        dueHolds(x, 0, 3, KEEPS);
        FinerSteps y = Kit.of(A + B + ";event off when x = 3 do x = 4");
        dueCase(y, 1, 0, KEEPS, 0, 3, 0);
        Kit.due("of each A", y.cases(1, 0, KEEPS), 4);
    }

    private static void keepsSound() { // KEEPS of the first machine: from sound states to sound ones
        FinerSteps x = Kit.of(A + ";law n < 2;event up when n < 2 do n = n + 1;event far when n > 1 do n = 9;"
                + "event stay when n < 2 do n = n");
        dueCase(x, 0, 0, KEEPS, 0, 1, 0);
        dueHolds(x, 0, 1, KEEPS);
        dueHolds(x, 0, 2, KEEPS);
    }

    private static void keepsOfANewOne() { // KEEPS of a new event: glued with A itself
        FinerSteps x = Kit.of(A + ";event go when n < 3 do n = n + 1" + B
                + ";law not x < n;event up when x < 3 do x = x + 1;event down when x > 0 do x = x - 1");
        dueHolds(x, 1, 0, KEEPS);
        dueCase(x, 1, 1, KEEPS, 1, 1, 0);
        Kit.due("where x = n", x.cases(1, 1, KEEPS), 3);
    }

    private static void keepsByWhatTheOtherGives() { // KEEPS of one that is of another
        FinerSteps x = Kit.of(SKIPS);
        dueCase(x, 1, 0, KEEPS, 0, 0, 0);
        Kit.due("all of 0, 1, 2", x.cases(1, 0, KEEPS), 3);
        // go gives no state from 3, so there is none to be glued with
        FinerSteps y = Kit.of(A + ";event go when 1 = 1 do n = n + 1" + B + ";event hop of go when 1 = 1 do x = 0");
        dueCase(y, 1, 0, KEEPS, 3, 0, 0);
        Kit.due("from 3 alone", y.cases(1, 0, KEEPS), 4);
        dueHolds(y, 1, 0, STRONG);
        // what go gives isn't sound, so none is glued with it
        FinerSteps z = Kit.of(A + ";law n < 2;event go when 1 = 1 do n = n + 1" + B + ";event hop of go when 1 = 1 do x = 0");
        dueCase(z, 1, 0, KEEPS, 1, 0, 0);
        Kit.due("from 1 alone", z.cases(1, 0, KEEPS), 4);
    }

    private static void keepsByAnyPickOfTheOther() { // by a pick by which it can be in A
        String hop = B + ";law x = n;event hop of go any 0 to 9 when pick < 4 do x = pick";
        dueHolds(Kit.of(A + ";event go any 90 to 99 when pick < 94 do n = pick - 90" + hop), 1, 0, KEEPS);
        // the last pick is missed
        dueCase(Kit.of(A + ";event go any 90 to 99 when pick < 93 do n = pick - 90" + hop), 1, 0, KEEPS, 0, 0, 3);
        // by 90 it gives 0, but can't be
        dueCase(Kit.of(A + ";event go any 90 to 99 when pick > 90 do n = pick - 90" + hop), 1, 0, KEEPS, 0, 0, 0);
    }

    private static void keepsWhereTheOtherIsAside() { // an event put aside can never be
        FinerSteps x = Kit.of(A + ";event go any 0 to 3 when 1 = 1 do n = pick" + B + ";law x = n;event hop of go when 1 = 1 do x = x");
        dueHolds(x, 1, 0, KEEPS);
        dueHolds(x, 1, 0, STRONG);
        x.aside(0, 0, true);
        dueCase(x, 1, 0, KEEPS, 0, 0, 0);
        dueCase(x, 1, 0, STRONG, 0, 0, 0);
        x.aside(1, 0, true);
        dueHolds(x, 1, 0, KEEPS);
        dueHolds(x, 1, 0, STRONG);
        x.aside(0, 0, false);
        x.aside(1, 0, false);
        dueHolds(x, 1, 0, KEEPS);
        dueHolds(x, 1, 0, STRONG);
    }

    private static void holdsWhereItCanNeverBe() { // there is no case then
        FinerSteps x = Kit.of(A + ";event go when 1 = 0 do n = 9" + B + ";event hop of go when 1 = 0 do x = 9;event slip when 1 = 0 do x = 9");
        for (int duty = 0; duty < 3; duty++) {
            dueHolds(x, 0, 0, duty);
            dueHolds(x, 1, 0, duty);
            dueHolds(x, 1, 1, duty);
        }
        FinerSteps y = Kit.of(A + B + ";event off when 1 = 1 do x = 9");
        dueCase(y, 1, 0, KEEPS, 0, 0, 0);
        dueCase(y, 1, 0, LESS, 0, 0, 0);
        y.aside(1, 0, true);
        dueHolds(y, 1, 0, KEEPS);
        dueHolds(y, 1, 0, LESS);
    }

    private static void holdsWhereNoneIsSound() { // but it can't begin
        FinerSteps x = Kit.of(A + ";law 1 = 0;event go when 1 = 1 do n = 9" + B
                + ";event hop of go when 1 = 1 do x = 9;event slip when 1 = 1 do x = 9");
        for (int duty = 0; duty < 3; duty++) {
            dueHolds(x, 0, 0, duty);
            dueHolds(x, 1, 0, duty);
            dueHolds(x, 1, 1, duty);
        }
        dueCase(x, 0, 0, BEGINS, 0, 0, 0);
        dueCase(x, 1, 0, BEGINS, 0, 0, 0);
        dueHolds(x, 0, 0, GOES_ON);
        dueHolds(x, 1, 0, GOES_ON);
        Kit.due("open(0)", x.open(0), 1);
        Kit.due("open(1)", x.open(1), 1);
    }

    private static void strongOfOthers() { // new ones hold, and all of the first machine
        FinerSteps x = Kit.of(A + ";event go when 1 = 1 do n = 9" + B + ";event slip when 1 = 1 do x = 9");
        dueHolds(x, 0, 0, STRONG);
        dueHolds(x, 1, 0, STRONG);
        Kit.due("cases(0, 0, 1)", x.cases(0, 0, STRONG), 0);
        Kit.due("cases(1, 0, 1)", x.cases(1, 0, STRONG), 0);
    }

    private static void strongBySomePick() { // by the last alone; whatever it gives
        String hop = B + ";law x = n;event hop of go any 4 to 5 when 1 = 1 do x = x";
        FinerSteps x = Kit.of(A + ";event go any 0 to 9 when pick = 9 and n < 3 do n = 9" + hop);
        dueCase(x, 1, 0, STRONG, 3, 3, 4);
        Kit.due("by both picks", x.cases(1, 0, STRONG), 2);
        dueHolds(Kit.of(A + ";event go any 0 to 9 when pick = 0 do n = 9" + hop), 1, 0, STRONG);
        dueCase(Kit.of(A + ";event go any 0 to 9 when pick > 9 do n = 9" + hop), 1, 0, STRONG, 0, 0, 4);
    }

    private static void lessOfOthers() { // those of the first machine, those of another one hold
        FinerSteps x = Kit.of(A + ";event go when 1 = 1 do n = 9;variant 0 - n" + B + ";event hop of go when 1 = 1 do x = 9;variant 0 - x");
        dueHolds(x, 0, 0, LESS);
        dueHolds(x, 1, 0, LESS);
        Kit.due("cases(0, 0, 2)", x.cases(0, 0, LESS), 0);
        Kit.due("cases(1, 0, 2)", x.cases(1, 0, LESS), 0);
        FinerSteps y = Kit.of(A + ";event go when 1 = 1 do n = 0");
        dueHolds(y, 0, 0, LESS);
    }

    private static void lessToZero() { // 0 or more
        dueHolds(Kit.of(A + B + ";event down when x = 1 do x = 0;variant x"), 1, 0, LESS);
        dueHolds(Kit.of(A + B + ";event down when x > 0 do x = x - 1;variant x"), 1, 0, LESS);
        dueHolds(Kit.of(A + B + ";event up when x < 3 do x = x + 1;variant 3 - x"), 1, 0, LESS);
        dueCase(Kit.of(A + B + ";event up when x < 3 do x = x + 1;variant 2 - x"), 1, 0, LESS, 0, 2, 0);
    }

    private static void lessBelowZeroOrEqual() { // -1 is below 0; as much isn't less; more isn't either
        dueCase(Kit.of(A + B + ";event down when x = 1 do x = 0;variant x - 1"), 1, 0, LESS, 0, 1, 0);
        dueCase(Kit.of(A + B + ";event stay when x = 2 do x = 2;variant x"), 1, 0, LESS, 0, 2, 0);
        dueCase(Kit.of(A + B + ";event up when x = 2 do x = 3;variant x"), 1, 0, LESS, 0, 2, 0);
        dueCase(Kit.of(A + B + ";event up when x = 2 do x = 3;variant 0"), 1, 0, LESS, 0, 2, 0);
        dueCase(Kit.of(A + B + ";event down when x = 1 do x = 0;variant x - 3"), 1, 0, LESS, 0, 1, 0);
    }

    private static void lessWithoutAVariant() { // there is a variant
        FinerSteps x = Kit.of(A + ";variant n" + B + ";event down when x > 1 do x = x - 1");
        dueCase(x, 1, 0, LESS, 0, 2, 0);
        Kit.due("all fail", x.cases(1, 0, LESS), 8);
        Kit.due("the other duties hold", x.open(1), 1);
    }

    private static void lessToNoState() { // what it gives is a state
        FinerSteps x = Kit.of(A + B + ";event down any 1 to 2 when x > 0 do x = x - pick;variant x + 5");
        dueCase(x, 1, 0, LESS, 0, 1, 2);
        Kit.due("of each A", x.cases(1, 0, LESS), 4);
        dueCase(x, 1, 0, KEEPS, 0, 1, 2);
    }

    private static void lessOfWrappedVariants() { // the most is above all, the least below all
        String half = "128*256*256*256";
        dueHolds(Kit.of(A + B + ";event down when x = 1 do x = 0;variant [" + half + "-1]*x"), 1, 0, LESS);
        dueHolds(Kit.of(A + B + ";event down when x = 3 do x = 2;variant " + half + "-1-[3-x]"), 1, 0, LESS);
        // the variant is the least for 2, and the most, one below it, for 3
        dueCase(Kit.of(A + B + ";event up when x = 2 do x = 3;variant " + half + "+[2-x]"), 1, 0, LESS, 0, 2, 0);
        dueCase(Kit.of(A + B + ";event down when x = 3 do x = 2;variant " + half + "+[2-x]"), 1, 0, LESS, 0, 3, 0);
    }

    private static void beginsOfTheFirst() { // BEGINS: sound, whatever its place
        dueHolds(Kit.of("machine a;var n from 0 to 9 at 9;law n = 9"), 0, 0, BEGINS);
        dueCase(Kit.of("machine a;var n from 0 to 9 at 9;law n < 9"), 0, 0, BEGINS, 0, 9, 0);
        dueCase(Kit.of("machine a;var n from 0 to 9 at 0;law n > 0"), 0, 0, BEGINS, 0, 0, 0);
        dueCase(Kit.of("machine a;var n from 0 to 9 at 9;var m from 0 to 9 at 9;law n = 0"), 0, 0, BEGINS, 0, 99, 0);
    }

    private static void beginsOfOthers() { // both begins are glued: the one ahead sound, all laws hold
        dueHolds(Kit.of("machine a;var n from 0 to 9 at 9;machine b;var x from 0 to 9 at 9;law x = n"), 1, 0, BEGINS);
        dueCase(Kit.of("machine a;var n from 0 to 9 at 9;machine b;var x from 0 to 9 at 8;law x = n"), 1, 0, BEGINS, 9, 8, 0);
        dueCase(Kit.of("machine a;var n from 0 to 9 at 9;law n < 9;machine b;var x from 0 to 9 at 9;law x = n"),
                1, 0, BEGINS, 9, 9, 0);
        FinerSteps x = Kit.of("machine a;var n from 0 to 1 at 1;machine b;var x from 0 to 1 at 0;law n = 0;"
                + "machine c;var y from 0 to 1 at 1;law x = 0");
        dueCase(x, 1, 0, BEGINS, 1, 0, 0);
        // 0 of b is sound by 0 of a, though b doesn't begin well
        dueHolds(x, 2, 0, BEGINS);
    }

    private static void goesOnOfTheFirst() { // GOES ON: by some pick, whatever it gives; only sound states count
        String any = ";event go any 0 to 9 when pick = 9 and n < ";
        dueHolds(Kit.of(A + any + "4 do n = 9"), 0, 0, GOES_ON);
        dueCase(Kit.of(A + any + "3 do n = 9"), 0, 0, GOES_ON, 0, 3, 0);
        dueHolds(Kit.of(A + ";law n < 3" + any + "3 do n = 9"), 0, 0, GOES_ON);
        FinerSteps x = Kit.of(A + ";event p when n = 0 do n = 0;event q when n = 1 do n = 0;event r when n = 2 do n = 0;"
                + "event s when n = 3 do n = 0");
        dueHolds(x, 0, 0, GOES_ON);
        for (int e = 0; e < 4; e++) {
            x.aside(0, e, true);
            dueCase(x, 0, 0, GOES_ON, 0, e, 0);
            x.aside(0, e, false);
        }
    }

    private static void goesOnWithoutEvents() { // no event can be
        dueCase(Kit.of(A), 0, 0, GOES_ON, 0, 0, 0);
        dueCase(Kit.of(A + ";law n > 2"), 0, 0, GOES_ON, 0, 3, 0);
        dueHolds(Kit.of(A + ";law n > 3"), 0, 0, GOES_ON);
        dueHolds(Kit.of(A + B), 1, 0, GOES_ON);
        dueCase(Kit.of(A + ";event go when n = 2 do n = 9" + B), 1, 0, GOES_ON, 2, 0, 0);
    }

    private static void goesOnOfOthers() { // only where the one ahead goes on
        FinerSteps x = Kit.of(A + ";event go any 0 to 9 when n < 2 and pick = 9 do n = 9" + B
                + ";law x = n;event hop of go any 0 to 9 when x < 1 and pick = 9 do x = 9;event slip when x = 1 do x = 9");
        dueHolds(x, 1, 0, GOES_ON);
        x.aside(1, 1, true);
        dueCase(x, 1, 0, GOES_ON, 1, 1, 0);
        x.aside(0, 0, true);
        dueHolds(x, 1, 0, GOES_ON);
    }

    private static void firstByAThenSThenPick() {
        String b = ";machine b;var x from 0 to 3 at 0;law x + n = 3;event e any 5 to 7 when pick > 5 and ";
        dueCase(Kit.of(A + b + "x > 0 do x = 9"), 1, 0, KEEPS, 0, 3, 6);
        dueCase(Kit.of(A + b + "x < 2 do x = 9"), 1, 0, KEEPS, 2, 1, 6);
        dueCase(Kit.of(A + b + "x < 2 and x + pick > 7 do x = 9"), 1, 0, KEEPS, 2, 1, 7);
        FinerSteps x = Kit.of(A + ";machine b;var x from 0 to 3 at 0;law x > n;event e any 1 to 3 when x + pick > 4 do x = 9");
        dueCase(x, 1, 0, KEEPS, 0, 2, 3);
        FinerSteps last = Kit.of("machine a;var n from 0 to 9 at 0;var m from 0 to 9 at 0;machine b;var x from 0 to 9 at 0;"
                + "var y from 0 to 9 at 0;law n = 9 and m = 9;event e any 90 to 99 when x = 9 and y = 9 and pick = 99 do x = 10");
        dueCase(last, 1, 0, KEEPS, 99, 99, 99);
        Kit.due("the only one", last.cases(1, 0, KEEPS), 1);
    }

    private static void shownOfNone() { // promise 17
        FinerSteps x = Kit.of(SKIPS);
        for (int round = 0; round < 2; round++) {
            for (int what : Edge.outside(3)) {
                Edge.refused(x, 1, "shown(" + what + ")", y -> y.shown(what));
            }
            x.duty(1, 0, KEEPS);
        }
        FinerSteps none = new FinerSteps();
        for (int what : Edge.outside(3)) {
            Edge.refused(none, 1, "no text: shown(" + what + ")", y -> y.shown(what));
        }
    }

    private static void shownAheadOfAny() { // promise 17
        FinerSteps x = Kit.of(SKIPS);
        for (int what = 0; what < 3; what++) {
            int asked = what;
            Edge.answers(x, -2, "ahead of any duty(): shown(" + what + ")", y -> y.shown(asked));
        }
        x.duty(9, 9, 9);
        Edge.answers(x, -2, "behind a duty() that was refused", y -> y.shown(0));
    }

    private static void shownTillTheNext() { // promise 17
        FinerSteps x = Kit.of(SKIPS);
        dueCase(x, 1, 0, KEEPS, 0, 0, 0);
        dueCase(x, 0, 0, GOES_ON, 0, 3, 0);
        dueHolds(x, 0, 0, BEGINS);
        dueCase(x, 0, 0, GOES_ON, 0, 3, 0);
        Kit.tell(x, SKIPS);
        Edge.answers(x, -2, "behind machines()", y -> y.shown(1));
    }

    private static void shownOverRefusals() { // it stays over all but duty(), machines() that aren't refused
        FinerSteps x = Kit.of(SKIPS);
        dueCase(x, 0, 0, GOES_ON, 0, 3, 0);
        x.duty(0, 0, 5);
        x.duty(0, 1, 0);
        x.machines(1);
        x.machines(0);
        x.open(1);
        x.cases(1, 0, 0);
        x.run(1);
        x.step(0, 0);
        x.aside(0, 0, true);
        x.reach(0);
        x.write();
        x.draws(1, 1);
        for (int what = 0; what < 3; what++) {
            Kit.due("it stays shown", x.shown(what), what == 1 ? 3 : 0);
        }
    }

    private static void openOfNone() { // promise 18
        FinerSteps x = Kit.of(SKIPS);
        for (int m : Edge.outside(2)) {
            Edge.refused(x, 1, "open(" + m + ")", y -> y.open(m));
        }
    }

    private static void openNoneAndMost() { // promise 18
        Kit.due("none", Kit.of("machine a;var n from 0 to 0 at 0;event e when 1 = 1 do n = n").open(0), 0);
        Kit.due("no event: it doesn't go on", Kit.of(A).open(0), 1);
        String off = " when n = 0 do n = 9";
        FinerSteps first = Kit.of("machine a;var n from 0 to 3 at 3;law n < 3;event p" + off + ";event q" + off + ";event r" + off
                + ";event s" + off);
        Kit.due("most of the first: KEEPS of four, BEGINS, GOES ON", first.open(0), 6);
        String hop = " of go when x = 1 do x = 9";
        FinerSteps old = Kit.of(A + ";event go when n = 0 do n = 0" + B + ";law not n = 0 or x > 0;event p" + hop + ";event q" + hop
                + ";event r" + hop + ";event s" + hop);
        Kit.due("KEEPS and STRONG of four, BEGINS, GOES ON", old.open(1), 10);
        String slip = " when x = 1 do x = 9";
        FinerSteps fresh = Kit.of(A + ";event go when n = 0 do n = 0" + B + ";law not n = 0 or x > 0;event p" + slip + ";event q"
                + slip + ";event r" + slip + ";event s" + slip);
        Kit.due("KEEPS and LESS of four, BEGINS, GOES ON", fresh.open(1), 10);
        for (int e = 0; e < 4; e++) {
            fresh.aside(1, e, true);
            Edge.answers(fresh, 8 - 2 * e, "open(1) with " + (e + 1) + " aside", y -> y.open(1));
        }
    }

    private static void openShowsNothing() { // promises 18, 19: only duty() shows
        FinerSteps x = Kit.of(SKIPS);
        x.open(1);
        x.cases(1, 0, KEEPS);
        Edge.answers(x, -2, "behind open(), cases()", y -> y.shown(0));
        Edge.refused(x, 5, "none to be written", y -> y.write());
    }

    private static void casesOfNone() { // promise 19: duties of events alone
        FinerSteps x = Kit.of(SKIPS);
        for (int duty : Edge.outside(3)) {
            Edge.refused(x, 1, "cases(1, 0, " + duty + ")", y -> y.cases(1, 0, duty));
        }
        for (int m : Edge.outside(2)) {
            Edge.refused(x, 1, "cases(" + m + ", 0, 0)", y -> y.cases(m, 0, 0));
        }
        for (int e : Edge.outside(1)) {
            Edge.refused(x, 1, "cases(1, " + e + ", 0)", y -> y.cases(1, e, 0));
        }
        Edge.refused(Kit.of(A), 1, "no event: cases(0, 0, 0)", y -> y.cases(0, 0, 0));
    }

    private static void casesNoneAndMost() { // promise 19
        FinerSteps x = Kit.of("machine a;var n from 0 to 9 at 0;var m from 0 to 9 at 0;event go any 0 to 9 when 1 = 1 do n = 10;"
                + "machine b;var x from 0 to 9 at 0;var y from 0 to 9 at 0;event hop of go any 0 to 9 when 1 = 1 do x = 0;"
                + "event slip any 90 to 99 when 1 = 1 do x = 10;event well when 1 = 1 do x = 0");
        Edge.answers(x, 1000, "all of the first", y -> y.cases(0, 0, KEEPS));
        Edge.answers(x, 100000, "go gives none", y -> y.cases(1, 0, KEEPS));
        Edge.answers(x, 0, "but it can be", y -> y.cases(1, 0, STRONG));
        Edge.answers(x, 100000, "all of slip", y -> y.cases(1, 1, KEEPS));
        Edge.answers(x, 100000, "all of slip", y -> y.cases(1, 1, LESS));
        Edge.answers(x, 0, "none of well", y -> y.cases(1, 2, KEEPS));
        Edge.answers(x, 10000, "no variant", y -> y.cases(1, 2, LESS));
        x.aside(0, 0, true);
        Edge.answers(x, 100000, "go can't be", y -> y.cases(1, 0, STRONG));
        Edge.answers(x, 0, "none of what is aside", y -> y.cases(0, 0, KEEPS));
    }

    private static void casesOfOthers() { // promise 19: others hold, so none fails
        FinerSteps x = Kit.of(SKIPS);
        Edge.answers(x, 0, "STRONG of the first machine", y -> y.cases(0, 0, STRONG));
        Edge.answers(x, 0, "LESS of the first machine", y -> y.cases(0, 0, LESS));
        Edge.answers(x, 0, "LESS of one that is of another", y -> y.cases(1, 0, LESS));
        Edge.answers(x, 3, "KEEPS", y -> y.cases(1, 0, KEEPS));
    }

    private static void writeOfNone() { // promise 20
        Edge.refused(new FinerSteps(), 5, "no text: write()", y -> y.write());
        FinerSteps x = Kit.of(SKIPS);
        Edge.refused(x, 5, "ahead of any duty(): write()", y -> y.write());
        x.duty(0, 0, BEGINS);
        Edge.refused(x, 5, "behind one that holds: write()", y -> y.write());
        x.duty(1, 0, KEEPS);
        Edge.answers(x, 14, "behind one that fails: write()", y -> y.write());
        x.duty(0, 0, BEGINS);
        Edge.refused(x, 5, "behind one that holds: write()", y -> y.write());
    }

    private static void dueWritten(FinerSteps x, String text) {
        Edge.answers(x, text.length(), "write() of " + text, y -> y.write());
        Kit.dueText("what was written", Kit.written(x), text);
    }

    private static void writeShortestAndLongest() { // promise 20
        FinerSteps x = Kit.of(A);
        x.duty(0, 0, GOES_ON);
        dueWritten(x, "n=0 pick=0");
        FinerSteps y = Kit.of("machine a;var aaaaaaa from 0 to 9 at 9;var bbbbbbb from 8 to 8 at 8;var ccccccc from 7 to 7 at 7;"
                + "machine b;var ddddddd from 6 to 6 at 6;var eeeeeee from 5 to 5 at 5;var fffffff from 4 to 4 at 4;"
                + "law aaaaaaa = 9;event e any 90 to 99 when pick = 99 do fffffff = 0");
        y.duty(1, 0, KEEPS);
        dueWritten(y, "aaaaaaa=9 bbbbbbb=8 ccccccc=7 ddddddd=6 eeeeeee=5 fffffff=4 pick=99");
    }

    private static void writeNumbersOfTwoDigits() { // promise 20: 9, 10, 99
        for (int pick : new int[] {0, 1, 9, 10, 11, 19, 20, 90, 99}) {
            FinerSteps x = Kit.of(A + ";event e any " + pick + " to " + pick + " when n = 3 do n = 4");
            x.duty(0, 0, KEEPS);
            dueWritten(x, "n=3 pick=" + pick);
        }
    }

    private static void writeOfTheMachineAsked() { // promise 20: of the third A is of the second; acts don't matter
        FinerSteps x = Kit.of(A + ";machine b;var x from 0 to 3 at 1;law x > 0;machine c;var y from 2 to 3 at 2;"
                + "law x = 2;event e when y = 3 do y = 4");
        x.duty(2, 0, KEEPS);
        x.aside(2, 0, true);
        x.run(0);
        dueWritten(x, "x=2 y=3 pick=0");
        x.duty(2, 0, BEGINS);
        dueWritten(x, "x=1 y=2 pick=0");
        x.duty(0, 0, BEGINS);
        x.duty(0, 0, GOES_ON);
        dueWritten(x, "n=0 pick=0");
        dueWritten(x, "n=0 pick=0");
    }

    private static void octetOfNone() { // promise 21
        FinerSteps x = new FinerSteps();
        for (int k : new int[] {Edge.LEAST, -1}) {
            Edge.refused(x, 1, "nothing is written: octet(" + k + ")", y -> y.octet(k));
        }
        for (int k : new int[] {0, 1, 66, 67, Edge.MOST}) {
            Edge.answers(x, -2, "nothing is written: octet(" + k + ")", y -> y.octet(k));
        }
        FinerSteps z = Kit.of(A);
        z.duty(0, 0, GOES_ON);
        Edge.answers(z, -2, "shown, but not written", y -> y.octet(0));
    }

    private static void octetFirstAndLast() { // promise 21
        FinerSteps x = Kit.of(A);
        x.duty(0, 0, GOES_ON);
        x.write();
        Edge.answers(x, 'n', "octet(0)", y -> y.octet(0));
        Edge.answers(x, '0', "octet(9)", y -> y.octet(9));
        for (int k : new int[] {10, 11, Edge.MOST}) {
            Edge.answers(x, -2, "octet(" + k + ")", y -> y.octet(k));
        }
        for (int k : new int[] {Edge.LEAST, -1}) {
            Edge.refused(x, 1, "octet(" + k + ")", y -> y.octet(k));
        }
    }

    private static void octetStays() { // promise 21: till the next write() that isn't refused
        FinerSteps x = Kit.of(SKIPS);
        x.duty(1, 0, KEEPS);
        x.write();
        x.duty(0, 0, GOES_ON);
        Kit.dueText("over duty()", Kit.written(x), "n=0 x=0 pick=0");
        x.duty(0, 0, BEGINS);
        x.write();
        Kit.dueText("over a write() that is refused", Kit.written(x), "n=0 x=0 pick=0");
        Kit.tell(x, A);
        Kit.dueText("over machines()", Kit.written(x), "n=0 x=0 pick=0");
        x.machines(0);
        x.write();
        Kit.dueText("over a fault", Kit.written(x), "n=0 x=0 pick=0");
        x.duty(0, 0, GOES_ON);
        dueWritten(x, "n=0 pick=0");
        Edge.answers(x, -2, "a shorter one: nothing is left of the longer", y -> y.octet(10));
    }
}
