import java.util.Arrays;
import java.util.NoSuchElementException;

/** Machines told as a text, each finer than the one ahead, with their duties, runs and ways. */
public final class FinerSteps {
    public static final int NONE = -1;

    /** What is answered where a call isn't refused, but there is nothing to tell. */
    private static final int ABSENT = -2;

    private static final int TAPE_BYTES = 600;
    private static final int MOST_MACHINES = 3;
    private static final int MOST_VARIABLES = 3;
    private static final int MOST_LAWS = 4;
    private static final int MOST_EVENTS = 4;
    private static final int MOST_STATES = 100;
    private static final int MOST_PICKS = 10;
    private static final int HIGHEST_PICK = 99;
    private static final int HIGHEST_NUMBER = 9;
    private static final int MOST_OPEN = 8;
    private static final int MOST_ATOMS = 30;
    private static final int MOST_NAMES = MOST_MACHINES * (1 + MOST_VARIABLES + MOST_EVENTS);
    private static final int MOST_DRAWS = 40;

    private static final int NO_SUCH = 1;
    private static final int BAD_NUMBER = 2;
    private static final int FAULTY = 4;
    private static final int NOT_SO = 5;

    private static final int FORM = 1;
    private static final int BOUNDS = 2;
    private static final int BAD_NAME = 3;
    private static final int MANY = 4;
    private static final int LACKS = 5;

    private static final int KEEPS = 0;
    private static final int STRONG = 1;
    private static final int LESS = 2;
    private static final int BEGINS = 3;
    private static final int GOES_ON = 4;
    private static final int DUTIES_OF_EVENT = 3;
    private static final int VERDICTS = MOST_EVENTS * DUTIES_OF_EVENT + 2;

    /** The words that are no names; token kind RESERVED_FROM + i is the i-th of them. */
    private static final String RESERVED =
            "machine var from to at law event of any when do variant or and not pick ";
    private static final int RESERVED_WORDS = 16;

    /** Token kinds; a single sign is its own kind, so these lie beyond all bytes. */
    private static final int END = 300;
    private static final int STRANGE = 301;
    private static final int NAME = 302;
    private static final int WHOLE = 303;
    private static final int BLANK = 304;
    private static final int RESERVED_FROM = 400;
    private static final int MACHINE = RESERVED_FROM;
    private static final int VAR = RESERVED_FROM + 1;
    private static final int FROM = RESERVED_FROM + 2;
    private static final int TO = RESERVED_FROM + 3;
    private static final int AT = RESERVED_FROM + 4;
    private static final int LAW = RESERVED_FROM + 5;
    private static final int EVENT = RESERVED_FROM + 6;
    private static final int OF = RESERVED_FROM + 7;
    private static final int ANY = RESERVED_FROM + 8;
    private static final int WHEN = RESERVED_FROM + 9;
    private static final int DO = RESERVED_FROM + 10;
    private static final int VARIANT = RESERVED_FROM + 11;
    private static final int OR = RESERVED_FROM + 12;
    private static final int AND = RESERVED_FROM + 13;
    private static final int NOT = RESERVED_FROM + 14;
    private static final int PICK = RESERVED_FROM + 15;

    private static final int LONGEST_WORD = 7;
    private static final int LONGEST_WHOLE = 3;
    /** A name is a long of letters, five bits each, a being 1, the first one highest. */
    private static final int LETTER_BITS = 5;
    private static final int LETTER_MASK = 31;

    /** Codes: below SLOTS a whole, below OPERATORS a place in the scene, from there on a sign. */
    private static final int SLOTS = 1000;
    private static final int OPERATORS = 2000;
    private static final int STOP = 3000;

    /** The scene: own variables, those of the machine ahead, the pick. */
    private static final int AHEAD_SLOT = MOST_VARIABLES;
    private static final int PICK_SLOT = 2 * MOST_VARIABLES;
    private static final int SCENE_SLOTS = PICK_SLOT + 1;

    private final byte[] tape = new byte[TAPE_BYTES];
    private final Reader reader = new Reader();
    private final Judge judge = new Judge();
    private final Walk walk = new Walk();
    private final Paths paths = new Paths();
    private final Scroll scroll = new Scroll();
    private final int[] shownCase = new int[3];
    private Model model = new Model();
    /** A text is read into this one, so that a fault leaves the model as it is. */
    private Model draft = new Model();
    private int tapeSize = 0;
    private int shownMachine = NONE;
    private int lastTrouble = 0;
    private int lastFault = 0;
    private int faultPlace = NONE;

    public FinerSteps() {
    }

    // ---- machines

    public int feed(int a, int b, int c, int d, int e) {
        if (tapeSize + 20 > TAPE_BYTES) {
            return NONE;
        }
        putBytes(a);
        putBytes(b);
        putBytes(c);
        putBytes(d);
        putBytes(e);
        return tapeSize;
    }

    public int machines(int n) {
        if (n < 0 || n > tapeSize) {
            return refuse(BAD_NUMBER);
        }
        reader.start(tape, n, draft);
        boolean fine = reader.readLines();
        tapeSize = 0;
        lastFault = reader.faultMet;
        faultPlace = reader.faultAt;
        if (!fine) {
            return refuse(FAULTY);
        }
        Model old = model;
        model = draft;
        draft = old;
        model.settle();
        walk.end();
        shownMachine = NONE;
        return answer(model.count);
    }

    public int fault() {
        return lastFault;
    }

    public int where() {
        return lastTrouble == FAULTY ? faultPlace : NONE;
    }

    public int machine(int m, int what) {
        if (!isMachine(m) || what < 0 || what > 8) {
            return refuse(NO_SUCH);
        }
        return answer(model.machines[m].told(what));
    }

    public int variable(int m, int v, int what) {
        if (!isVariable(m, v) || what < 0 || what > 2) {
            return refuse(NO_SUCH);
        }
        Machine machine = model.machines[m];
        if (what == 0) {
            return answer(machine.low[v]);
        }
        return answer(what == 1 ? machine.high[v] : machine.at[v]);
    }

    public int event(int m, int e, int what) {
        if (!isEvent(m, e) || what < 0 || what > 4) {
            return refuse(NO_SUCH);
        }
        return answer(model.machines[m].event[e].told(what));
    }

    // ---- states

    public int value(int m, int state, int v) {
        if (!isState(m, state) || !isVariable(m, v)) {
            return refuse(NO_SUCH);
        }
        return answer(model.machines[m].number(state, v));
    }

    public int sound(int m, int state) {
        if (!isState(m, state)) {
            return refuse(NO_SUCH);
        }
        return answer(model.machines[m].sound[state] ? 1 : 0);
    }

    public int glued(int m, int ahead, int state) {
        if (m < 1 || !isState(m - 1, ahead) || !isState(m, state)) {
            return refuse(NO_SUCH);
        }
        return answer(model.machines[m].glue[state].has(ahead) ? 1 : 0);
    }

    public int beneath(int m, int state, int i) {
        if (m < 1 || !isState(m, state) || i < 0) {
            return refuse(NO_SUCH);
        }
        return answer(model.machines[m].glue[state].member(i));
    }

    public int can(int m, int e, int state, int pick) {
        if (!isEvent(m, e) || !isState(m, state)) {
            return refuse(NO_SUCH);
        }
        Event event = model.machines[m].event[e];
        if (!event.hasPick(pick)) {
            return refuse(BAD_NUMBER);
        }
        return answer(event.picksAt(state) >> (pick - event.first) & 1);
    }

    public int gives(int m, int e, int state, int pick) {
        if (!isEvent(m, e) || !isState(m, state)) {
            return refuse(NO_SUCH);
        }
        Event event = model.machines[m].event[e];
        if (!event.hasPick(pick)) {
            return refuse(BAD_NUMBER);
        }
        return answer(event.after(state, pick - event.first));
    }

    public int variant(int m, int state) {
        if (!isState(m, state)) {
            refuse(NO_SUCH);
            return 0;
        }
        Machine machine = model.machines[m];
        if (machine.variantCode == NONE) {
            refuse(NOT_SO);
            return 0;
        }
        return answer(machine.variants[state]);
    }

    // ---- duties

    public int duty(int m, int e, int duty) {
        if (!isDuty(m, e, duty)) {
            return refuse(NO_SUCH);
        }
        Verdict verdict = judge.verdictOn(model, m, e, duty);
        if (verdict.failing == 0) {
            shownMachine = NONE;
            return answer(1);
        }
        shownMachine = m;
        shownCase[0] = verdict.ahead;
        shownCase[1] = verdict.state;
        shownCase[2] = verdict.pick;
        return answer(0);
    }

    public int shown(int what) {
        if (what < 0 || what >= shownCase.length) {
            return refuse(NO_SUCH);
        }
        return answer(shownMachine == NONE ? ABSENT : shownCase[what]);
    }

    public int open(int m) {
        if (!isMachine(m)) {
            return refuse(NO_SUCH);
        }
        return answer(judge.countOpen(model, m));
    }

    public int cases(int m, int e, int duty) {
        if (duty >= DUTIES_OF_EVENT || !isDuty(m, e, duty)) {
            return refuse(NO_SUCH);
        }
        return answer(judge.verdictOn(model, m, e, duty).failing);
    }

    public int write() {
        if (!isState(shownMachine, shownCase[1])) {
            return refuse(NOT_SO);
        }
        scroll.clear();
        if (shownMachine > 0) {
            scroll.putState(model.machines[shownMachine - 1], shownCase[0]);
        }
        scroll.putState(model.machines[shownMachine], shownCase[1]);
        scroll.putText("pick=");
        scroll.putNumber(shownCase[2]);
        return answer(scroll.count);
    }

    public int octet(int k) {
        if (k < 0) {
            return refuse(NO_SUCH);
        }
        return answer(k < scroll.count ? scroll.bytes[k] : ABSENT);
    }

    // ---- runs

    public int run(int m) {
        if (!isMachine(m)) {
            return refuse(NO_SUCH);
        }
        walk.begin(model, m);
        return answer(walk.state);
    }

    public int step(int e, int pick) {
        if (!isEvent(walk.number, e)) {
            return refuse(NO_SUCH);
        }
        Event event = model.machines[walk.number].event[e];
        if (!event.hasPick(pick)) {
            return refuse(BAD_NUMBER);
        }
        int index = pick - event.first;
        if ((event.stepsAt(walk.state) >> index & 1) == 0) {
            return refuse(NOT_SO);
        }
        walk.move(model, e, index);
        return answer(walk.state);
    }

    public int now(int what) {
        if (!isMachine(walk.number) || what < 0 || what > 4) {
            return refuse(NO_SUCH);
        }
        switch (what) {
            case 0:
                return answer(walk.number);
            case 1:
                return answer(walk.state);
            case 2:
                return answer(walk.made);
            case 3:
                return answer(walk.near.count());
            default:
                return answer(model.machines[walk.number].eventsFrom(walk.state));
        }
    }

    public int beside(int i) {
        if (!isMachine(walk.number) || i < 0) {
            return refuse(NO_SUCH);
        }
        return answer(walk.near.member(i));
    }

    public int draws(int n, int seed) {
        if (!isMachine(walk.number)) {
            return refuse(NO_SUCH);
        }
        if (n < 1 || n > MOST_DRAWS || seed < 0) {
            return refuse(BAD_NUMBER);
        }
        return answer(walk.wander(model, n, seed));
    }

    // ---- where one can come

    public int reach(int m) {
        if (!isMachine(m)) {
            return refuse(NO_SUCH);
        }
        paths.explore(model.machines[m]);
        return answer(paths.found);
    }

    public int steps(int m, int state) {
        if (!isState(m, state)) {
            return refuse(NO_SUCH);
        }
        paths.explore(model.machines[m]);
        return answer(paths.far[state]);
    }

    public int stuck(int m) {
        if (!isMachine(m)) {
            return refuse(NO_SUCH);
        }
        Machine machine = model.machines[m];
        paths.explore(machine);
        return answer(paths.firstEnd(machine));
    }

    public int unsound(int m) {
        if (!isMachine(m)) {
            return refuse(NO_SUCH);
        }
        Machine machine = model.machines[m];
        paths.explore(machine);
        return answer(paths.countUnsound(machine));
    }

    // ---- acts

    public int aside(int m, int e, boolean is) {
        if (!isEvent(m, e)) {
            return refuse(NO_SUCH);
        }
        Machine machine = model.machines[m];
        if (machine.event[e].aside == is) {
            return refuse(NOT_SO);
        }
        machine.event[e].aside = is;
        model.forgetVerdicts();
        return answer(machine.countAside());
    }

    // ---- what is told

    public int letter(int m, int v, int k) throws NoSuchElementException {
        if (!isMachine(m) || v != NONE && !isVariable(m, v)) {
            throw new NoSuchElementException();
        }
        Machine machine = model.machines[m];
        long name = v == NONE ? machine.name : machine.names[v];
        if (k < 0 || k >= lengthOf(name)) {
            throw new NoSuchElementException();
        }
        return letterOf(name, k);
    }

    public int size() {
        return tapeSize;
    }

    public int trouble() {
        return lastTrouble;
    }

    // ---- within

    private void putBytes(int number) {
        for (int shift = 24; shift >= 0 && tapeSize < TAPE_BYTES; shift -= 8) {
            tape[tapeSize] = (byte) (number >> shift);
            tapeSize++;
        }
    }

    private int refuse(int number) {
        lastTrouble = number;
        return NONE;
    }

    private int answer(int number) {
        lastTrouble = 0;
        return number;
    }

    private boolean isMachine(int m) {
        return m >= 0 && m < model.count;
    }

    private boolean isVariable(int m, int v) {
        return isMachine(m) && v >= 0 && v < model.machines[m].variables;
    }

    private boolean isEvent(int m, int e) {
        return isMachine(m) && e >= 0 && e < model.machines[m].events;
    }

    private boolean isState(int m, int state) {
        return isMachine(m) && state >= 0 && state < model.machines[m].states;
    }

    private boolean isDuty(int m, int e, int duty) {
        if (duty == BEGINS || duty == GOES_ON) {
            return isMachine(m);
        }
        return duty >= 0 && duty < DUTIES_OF_EVENT && isEvent(m, e);
    }

    private static int lengthOf(long name) {
        int length = 0;
        for (int k = 0; k < LONGEST_WORD; k++) {
            if (name >> (LETTER_BITS * k) != 0) {
                length++;
            }
        }
        return length;
    }

    /** 0 for a; k must be a place in the name. */
    private static int letterOf(long name, int k) {
        int behind = lengthOf(name) - 1 - k;
        return (int) (name >> (LETTER_BITS * behind) & LETTER_MASK) - 1;
    }

    /** A set of states of one machine: two longs, for there are at most 100. */
    private static final class StateSet {
        private long low;
        private long high;

        void clear() {
            low = 0;
            high = 0;
        }

        void put(int state) {
            if (state < 64) {
                low |= 1L << state;
            } else {
                high |= 1L << (state - 64);
            }
        }

        boolean has(int state) {
            long half = state < 64 ? low : high;
            return (half >>> (state & 63) & 1L) != 0;
        }

        int count() {
            return Long.bitCount(low) + Long.bitCount(high);
        }

        boolean meets(StateSet other) {
            return (low & other.low) != 0 || (high & other.high) != 0;
        }

        void copy(StateSet other) {
            low = other.low;
            high = other.high;
        }

        void keepOnly(StateSet other) {
            low &= other.low;
            high &= other.high;
        }

        /** The i-th of them by numbers. */
        int member(int i) {
            int left = i;
            for (int state = 0; state < MOST_STATES; state++) {
                if (has(state)) {
                    if (left == 0) {
                        return state;
                    }
                    left--;
                }
            }
            return ABSENT;
        }
    }

    /** What is found of one duty: how many cases fail, and the first of them. */
    private static final class Verdict {
        boolean known;
        int failing;
        int ahead;
        int state;
        int pick;

        void clear() {
            known = false;
            failing = 0;
        }

        void note(int aheadState, int ownState, int byPick) {
            if (failing == 0) {
                ahead = aheadState;
                state = ownState;
                pick = byPick;
            }
            failing++;
        }
    }

    /** An event, and, once its model is settled, where it can be and what it gives. */
    private static final class Event {
        final int[] giveCode = new int[MOST_VARIABLES];
        /** By state: bits of the picks by which the test holds. */
        private final int[] holding = new int[MOST_STATES];
        /** By state: those of them that give a state. */
        private final int[] leading = new int[MOST_STATES];
        private final int[] given = new int[MOST_STATES * MOST_PICKS];
        long name;
        int of;
        int first;
        int last;
        int gives;
        int whenCode;
        boolean aside;

        void clear(long newName) {
            name = newName;
            of = ABSENT;
            first = 0;
            last = 0;
            gives = 0;
            whenCode = NONE;
            aside = false;
        }

        int told(int what) {
            switch (what) {
                case 0:
                    return of;
                case 1:
                    return first;
                case 2:
                    return last;
                case 3:
                    return gives;
                default:
                    return aside ? 1 : 0;
            }
        }

        boolean hasPick(int pick) {
            return pick >= first && pick <= last;
        }

        int picksAt(int state) {
            return aside ? 0 : holding[state];
        }

        int stepsAt(int state) {
            return aside ? 0 : leading[state];
        }

        int after(int state, int index) {
            return given[state * MOST_PICKS + index];
        }

        void forget(int state) {
            holding[state] = 0;
            leading[state] = 0;
        }

        void settleAt(int state, int index, boolean holds, int next) {
            given[state * MOST_PICKS + index] = next;
            if (holds) {
                holding[state] |= 1 << index;
                leading[state] |= next >= 0 ? 1 << index : 0;
            }
        }

        /** All states that it gives from one, by picks by which it can be there. */
        void putGiven(int state, StateSet into) {
            int picks = stepsAt(state);
            for (int index = 0; index < MOST_PICKS; index++) {
                if ((picks >> index & 1) != 0) {
                    into.put(after(state, index));
                }
            }
        }
    }

    /** A machine as it is told, and, once its model is settled, what holds of its states. */
    private static final class Machine {
        final long[] names = new long[MOST_VARIABLES];
        final int[] low = new int[MOST_VARIABLES];
        final int[] high = new int[MOST_VARIABLES];
        final int[] at = new int[MOST_VARIABLES];
        final int[] lawCode = new int[MOST_LAWS];
        final Event[] event = new Event[MOST_EVENTS];
        final boolean[] sound = new boolean[MOST_STATES];
        /** By state: the states of the machine ahead that are glued with it. */
        final StateSet[] glue = new StateSet[MOST_STATES];
        final int[] variants = new int[MOST_STATES];
        final Verdict[] verdicts = new Verdict[VERDICTS];
        long name;
        int variables;
        int states;
        int laws;
        int events;
        int variantCode;
        int soundStates;
        int pairs;

        Machine() {
            for (int e = 0; e < MOST_EVENTS; e++) {
                event[e] = new Event();
            }
            for (int state = 0; state < MOST_STATES; state++) {
                glue[state] = new StateSet();
            }
            for (int i = 0; i < VERDICTS; i++) {
                verdicts[i] = new Verdict();
            }
        }

        void clear(long newName) {
            name = newName;
            variables = 0;
            states = 1;
            laws = 0;
            events = 0;
            variantCode = NONE;
        }

        int told(int what) {
            switch (what) {
                case 0:
                    return variables;
                case 1:
                    return laws;
                case 2:
                    return events;
                case 3:
                    return states;
                case 4:
                    return beginState();
                case 5:
                    return variantCode == NONE ? 0 : 1;
                case 6:
                    return soundStates;
                case 7:
                    return pairs;
                default:
                    return countNew();
            }
        }

        /** Each AT lies within its bounds, so there is always such a state. */
        int beginState() {
            return Math.max(0, stateOf(at, 0));
        }

        private int countNew() {
            int count = 0;
            for (int e = 0; e < events; e++) {
                if (event[e].of == ABSENT) {
                    count++;
                }
            }
            return count;
        }

        int countAside() {
            int count = 0;
            for (int e = 0; e < events; e++) {
                if (event[e].aside) {
                    count++;
                }
            }
            return count;
        }

        boolean hasOtherLines() {
            return laws > 0 || events > 0 || variantCode != NONE;
        }

        private int span(int v) {
            return Math.max(1, high[v] - low[v] + 1);
        }

        /** Writes a state's numbers into a row, from a place on. */
        void spread(int state, int[] row, int from) {
            int rest = state;
            for (int v = variables - 1; v >= 0; v--) {
                int span = span(v);
                row[from + v] = low[v] + rest % span;
                rest /= span;
            }
        }

        int number(int state, int variable) {
            int rest = state;
            for (int v = variables - 1; v > variable; v--) {
                rest /= span(v);
            }
            return low[variable] + rest % span(variable);
        }

        /** The state with the numbers that stand in a row, or ABSENT if one is out of bounds. */
        int stateOf(int[] row, int from) {
            int state = 0;
            for (int v = 0; v < variables; v++) {
                int number = row[from + v];
                if (number < low[v] || number > high[v]) {
                    return ABSENT;
                }
                state = state * span(v) + number - low[v];
            }
            return state;
        }

        boolean anyCan(int state) {
            for (int e = 0; e < events; e++) {
                if (event[e].picksAt(state) != 0) {
                    return true;
                }
            }
            return false;
        }

        /** Bits of the events by which a step leads from a state. */
        int eventsFrom(int state) {
            int bits = 0;
            for (int e = 0; e < events; e++) {
                if (event[e].stepsAt(state) != 0) {
                    bits |= 1 << e;
                }
            }
            return bits;
        }
    }

    /** The machines of one text; settle() works out all tables, so that no code is run later. */
    private static final class Model {
        final Machine[] machines = new Machine[MOST_MACHINES];
        private final int[] code = new int[TAPE_BYTES + 1];
        private final int[] scene = new int[SCENE_SLOTS];
        private final int[] stack = new int[MOST_ATOMS + 2];
        private final int[] nextRow = new int[MOST_VARIABLES];
        int count;
        int codeSize;

        Model() {
            for (int m = 0; m < MOST_MACHINES; m++) {
                machines[m] = new Machine();
            }
        }

        void clear() {
            count = 0;
            codeSize = 0;
            for (int m = 0; m < MOST_MACHINES; m++) {
                machines[m].clear(0);
            }
        }

        /** Every code stands for a token of its own, so the tape's length bounds them. */
        void emit(int op) {
            if (codeSize < code.length) {
                code[codeSize] = op;
                codeSize++;
            }
        }

        void settle() {
            for (int m = 0; m < count; m++) {
                if (m == 0) {
                    settleFirst(machines[0]);
                } else {
                    settleGlue(machines[m - 1], machines[m]);
                }
                settleVariants(machines[m]);
                for (int e = 0; e < machines[m].events; e++) {
                    settleEvent(machines[m], machines[m].event[e]);
                }
            }
            forgetVerdicts();
        }

        void forgetVerdicts() {
            for (int m = 0; m < count; m++) {
                for (int i = 0; i < VERDICTS; i++) {
                    machines[m].verdicts[i].clear();
                }
            }
        }

        private void settleFirst(Machine machine) {
            machine.soundStates = 0;
            machine.pairs = 0;
            for (int state = 0; state < machine.states; state++) {
                machine.spread(state, scene, 0);
                machine.sound[state] = lawsHold(machine);
                machine.soundStates += machine.sound[state] ? 1 : 0;
            }
        }

        private void settleGlue(Machine ahead, Machine machine) {
            machine.soundStates = 0;
            machine.pairs = 0;
            for (int state = 0; state < machine.states; state++) {
                StateSet glued = machine.glue[state];
                glued.clear();
                machine.spread(state, scene, 0);
                for (int other = 0; other < ahead.states; other++) {
                    if (!ahead.sound[other]) {
                        continue;
                    }
                    ahead.spread(other, scene, AHEAD_SLOT);
                    if (lawsHold(machine)) {
                        glued.put(other);
                    }
                }
                int many = glued.count();
                machine.pairs += many;
                machine.sound[state] = many > 0;
                machine.soundStates += many > 0 ? 1 : 0;
            }
        }

        private boolean lawsHold(Machine machine) {
            for (int i = 0; i < machine.laws; i++) {
                if (worth(machine.lawCode[i]) == 0) {
                    return false;
                }
            }
            return true;
        }

        private void settleVariants(Machine machine) {
            if (machine.variantCode == NONE) {
                return;
            }
            for (int state = 0; state < machine.states; state++) {
                machine.spread(state, scene, 0);
                machine.variants[state] = worth(machine.variantCode);
            }
        }

        private void settleEvent(Machine machine, Event event) {
            for (int state = 0; state < machine.states; state++) {
                event.forget(state);
                machine.spread(state, scene, 0);
                for (int pick = event.first; pick <= event.last; pick++) {
                    scene[PICK_SLOT] = pick;
                    boolean holds = worth(event.whenCode) != 0;
                    event.settleAt(state, pick - event.first, holds, stateGiven(machine, event));
                }
            }
        }

        private int stateGiven(Machine machine, Event event) {
            for (int v = 0; v < machine.variables; v++) {
                boolean given = (event.gives >> v & 1) != 0;
                nextRow[v] = given ? worth(event.giveCode[v]) : scene[v];
            }
            return machine.stateOf(nextRow, 0);
        }

        /** What a code from a start to its STOP comes to in the scene; a test comes to 1 or 0. */
        private int worth(int start) {
            int top = 0;
            for (int i = start; i >= 0 && i < codeSize && code[i] != STOP; i++) {
                int op = code[i];
                if (op < OPERATORS) {
                    if (top >= stack.length) {
                        return 0;
                    }
                    stack[top] = op < SLOTS ? op : scene[op - SLOTS];
                    top++;
                } else if (op == OPERATORS + NOT && top >= 1) {
                    stack[top - 1] = 1 - stack[top - 1];
                } else if (top >= 2) {
                    top--;
                    stack[top - 1] = joined(op - OPERATORS, stack[top - 1], stack[top]);
                }
            }
            return stack[0];
        }

        private static int joined(int sign, int left, int right) {
            switch (sign) {
                case '+':
                    return left + right;
                case '-':
                    return left - right;
                case '*':
                    return left * right;
                case '<':
                    return left < right ? 1 : 0;
                case '>':
                    return left > right ? 1 : 0;
                case '=':
                    return left == right ? 1 : 0;
                case AND:
                    return left & right;
                default:
                    return left | right;
            }
        }
    }

    /** Cuts the tape into tokens. */
    private static final class Tokens {
        final int[] kinds = new int[TAPE_BYTES + 1];
        final int[] places = new int[TAPE_BYTES + 1];
        /** Of a word its letters as a name, of a whole its number. */
        final long[] codes = new long[TAPE_BYTES + 1];
        private final long[] reserved = new long[RESERVED_WORDS];
        private int count;
        private int length;

        Tokens() {
            int word = 0;
            for (int i = 0; i < RESERVED.length(); i++) {
                char sign = RESERVED.charAt(i);
                if (sign == ' ') {
                    word++;
                } else if (word < RESERVED_WORDS) {
                    reserved[word] = reserved[word] << LETTER_BITS | (sign - 'a' + 1);
                }
            }
        }

        /** Words and wholes grow byte by byte; one that grows too long is STRANGE from its start. */
        void cut(byte[] tape, int end) {
            count = 0;
            int before = BLANK;
            for (int place = 0; place < end && place < TAPE_BYTES; place++) {
                int sign = tape[place];
                int family = familyOf(sign);
                boolean grows = family == before && (family == NAME || family == WHOLE);
                if (grows) {
                    lengthen(family, sign);
                } else if (family != BLANK) {
                    startToken(family, sign, place);
                }
                before = family;
            }
            for (int i = 0; i < count; i++) {
                if (kinds[i] == NAME) {
                    kinds[i] = kindOfWord(codes[i]);
                }
            }
            kinds[count] = END;
            places[count] = end;
        }

        private static int familyOf(int sign) {
            if (sign >= 'a' && sign <= 'z') {
                return NAME;
            }
            if (sign >= '0' && sign <= '9') {
                return WHOLE;
            }
            switch (sign) {
                case ' ':
                    return BLANK;
                case ';': case ',': case '=': case '<': case '>': case '+':
                case '-': case '*': case '(': case ')': case '[': case ']':
                    return sign;
                default:
                    return STRANGE;
            }
        }

        private void startToken(int family, int sign, int place) {
            kinds[count] = family;
            places[count] = place;
            codes[count] = 0;
            length = 0;
            count++;
            lengthen(family, sign);
        }

        private void lengthen(int family, int sign) {
            int latest = count - 1;
            length++;
            if (latest < 0) {
                return;
            }
            if (family == NAME && length <= LONGEST_WORD) {
                codes[latest] = codes[latest] << LETTER_BITS | (sign - 'a' + 1);
            } else if (family == WHOLE && length <= LONGEST_WHOLE) {
                codes[latest] = codes[latest] * 10 + (sign - '0');
            } else if (family == NAME || family == WHOLE) {
                kinds[latest] = STRANGE;
            }
        }

        private int kindOfWord(long word) {
            for (int i = 0; i < RESERVED_WORDS; i++) {
                if (reserved[i] == word) {
                    return RESERVED_FROM + i;
                }
            }
            return NAME;
        }
    }

    /** Reads a text from the left; each method answers false as soon as a fault is met. */
    private static final class Reader {
        private final Tokens tokens = new Tokens();
        private final long[] toldNames = new long[MOST_NAMES];
        int faultMet;
        int faultAt;
        private Model model;
        private Machine machine;
        private Event event;
        private int toldCount;
        private int at;
        private int atoms;
        private boolean inLaw;
        private boolean inEvent;

        void start(byte[] tape, int end, Model into) {
            tokens.cut(tape, end);
            into.clear();
            model = into;
            machine = into.machines[0];
            event = machine.event[0];
            toldCount = 0;
            at = 0;
            faultMet = 0;
            faultAt = NONE;
        }

        boolean readLines() {
            for (int lines = 0; lines <= TAPE_BYTES; lines++) {
                inLaw = kind() == LAW;
                inEvent = kind() == EVENT;
                boolean fine;
                switch (kind()) {
                    case MACHINE:
                        fine = readMachine();
                        break;
                    case VAR:
                        fine = readVariable();
                        break;
                    case LAW:
                        fine = readLaw();
                        break;
                    case EVENT:
                        fine = readEvent();
                        break;
                    case VARIANT:
                        fine = readVariant();
                        break;
                    default:
                        fine = fail(FORM);
                        break;
                }
                if (!fine) {
                    return false;
                }
                if (kind() == END) {
                    return machine.variables > 0 || fail(LACKS);
                }
                if (!pass(';')) {
                    return false;
                }
            }
            return fail(FORM);
        }

        private boolean readMachine() {
            if (model.count >= MOST_MACHINES) {
                return fail(MANY);
            }
            if (model.count > 0 && machine.variables == 0) {
                return fail(LACKS);
            }
            advance();
            if (!isNewName()) {
                return false;
            }
            machine = model.machines[model.count];
            machine.clear(code());
            model.count++;
            advance();
            return true;
        }

        private boolean readVariable() {
            if (model.count == 0) {
                return fail(LACKS);
            }
            int v = machine.variables;
            if (v >= MOST_VARIABLES || machine.hasOtherLines()) {
                return fail(MANY);
            }
            advance();
            if (!isNewName()) {
                return false;
            }
            machine.names[v] = code();
            advance();
            return readBounds(v);
        }

        private boolean readBounds(int v) {
            if (!pass(FROM) || !isWhole(0, HIGHEST_NUMBER)) {
                return false;
            }
            int low = number();
            advance();
            if (!pass(TO) || !isWhole(low, HIGHEST_NUMBER)) {
                return false;
            }
            int high = number();
            int states = machine.states * (high - low + 1);
            if (states > MOST_STATES) {
                return fail(MANY);
            }
            advance();
            if (!pass(AT) || !isWhole(low, high)) {
                return false;
            }
            machine.low[v] = low;
            machine.high[v] = high;
            machine.at[v] = number();
            machine.states = states;
            machine.variables++;
            advance();
            return true;
        }

        private boolean readLaw() {
            if (machine.variables == 0) {
                return fail(LACKS);
            }
            if (machine.laws >= MOST_LAWS) {
                return fail(MANY);
            }
            advance();
            machine.lawCode[machine.laws] = startCode();
            machine.laws++;
            return readTest(0) && stopCode();
        }

        private boolean readVariant() {
            if (machine.variables == 0) {
                return fail(LACKS);
            }
            if (machine.variantCode != NONE) {
                return fail(MANY);
            }
            advance();
            machine.variantCode = startCode();
            return readSum(0) && stopCode();
        }

        private boolean readEvent() {
            if (machine.variables == 0) {
                return fail(LACKS);
            }
            if (machine.events >= MOST_EVENTS) {
                return fail(MANY);
            }
            advance();
            if (!isNewName()) {
                return false;
            }
            event = machine.event[machine.events];
            event.clear(code());
            machine.events++;
            advance();
            if (kind() == OF && !readOf() || kind() == ANY && !readPicks() || !pass(WHEN)) {
                return false;
            }
            event.whenCode = startCode();
            return readTest(0) && stopCode() && readGivings();
        }

        private boolean readOf() {
            advance();
            if (kind() != NAME) {
                return fail(FORM);
            }
            if (model.count > 1) {
                Machine ahead = model.machines[model.count - 2];
                for (int e = 0; e < ahead.events; e++) {
                    if (ahead.event[e].name == code()) {
                        event.of = e;
                    }
                }
            }
            if (event.of == ABSENT) {
                return fail(BAD_NAME);
            }
            advance();
            return true;
        }

        private boolean readPicks() {
            advance();
            if (!isWhole(0, HIGHEST_PICK)) {
                return false;
            }
            event.first = number();
            advance();
            if (!pass(TO) || !isWhole(event.first, HIGHEST_PICK)) {
                return false;
            }
            event.last = number();
            if (event.last - event.first >= MOST_PICKS) {
                return fail(MANY);
            }
            advance();
            return true;
        }

        private boolean readGivings() {
            if (!pass(DO) || !readGiving()) {
                return false;
            }
            for (int more = 0; more < MOST_VARIABLES && kind() == ','; more++) {
                advance();
                if (!readGiving()) {
                    return false;
                }
            }
            return true;
        }

        private boolean readGiving() {
            if (kind() != NAME) {
                return fail(FORM);
            }
            int v = slotOf(code());
            if (v == NONE || (event.gives >> v & 1) != 0) {
                return fail(BAD_NAME);
            }
            advance();
            event.gives |= 1 << v;
            event.giveCode[v] = startCode();
            return pass('=') && readSum(0) && stopCode();
        }

        /** Facts joined by and at once, by or only when the next or, or the end, is met. */
        private boolean readTest(int depth) {
            if (!readFact(depth)) {
                return false;
            }
            boolean orWaits = false;
            for (int more = 0; more <= MOST_ATOMS && (kind() == AND || kind() == OR); more++) {
                boolean isOr = kind() == OR;
                if (isOr && orWaits) {
                    model.emit(OPERATORS + OR);
                }
                orWaits |= isOr;
                advance();
                if (!readFact(depth)) {
                    return false;
                }
                if (!isOr) {
                    model.emit(OPERATORS + AND);
                }
            }
            if (orWaits) {
                model.emit(OPERATORS + OR);
            }
            return true;
        }

        private boolean readFact(int depth) {
            int opener = kind();
            if (opener == NOT || opener == '(') {
                if (depth >= MOST_OPEN) {
                    return fail(MANY);
                }
                advance();
                if (opener == '(') {
                    return readTest(depth + 1) && pass(')');
                }
                if (!readFact(depth + 1)) {
                    return false;
                }
                model.emit(OPERATORS + NOT);
                return true;
            }
            if (!readSum(depth)) {
                return false;
            }
            int sign = kind();
            if (sign != '<' && sign != '>' && sign != '=') {
                return fail(FORM);
            }
            advance();
            if (!readSum(depth)) {
                return false;
            }
            model.emit(OPERATORS + sign);
            return true;
        }

        /** Atoms joined by * at once, by + and - only when the next of these, or the end, is met. */
        private boolean readSum(int depth) {
            if (!readAtom(depth)) {
                return false;
            }
            int waiting = NONE;
            for (int more = 0; more <= MOST_ATOMS && joinsAtoms(kind()); more++) {
                int sign = kind();
                if (sign != '*') {
                    if (waiting != NONE) {
                        model.emit(OPERATORS + waiting);
                    }
                    waiting = sign;
                }
                advance();
                if (!readAtom(depth)) {
                    return false;
                }
                if (sign == '*') {
                    model.emit(OPERATORS + sign);
                }
            }
            if (waiting != NONE) {
                model.emit(OPERATORS + waiting);
            }
            return true;
        }

        private static boolean joinsAtoms(int kind) {
            return kind == '+' || kind == '-' || kind == '*';
        }

        private boolean readAtom(int depth) {
            int kind = kind();
            boolean isPick = kind == PICK && inEvent;
            if (kind != WHOLE && kind != NAME && kind != '[' && !isPick) {
                return fail(FORM);
            }
            int slot = kind == NAME ? slotOf(code()) : PICK_SLOT;
            if (slot == NONE) {
                return fail(BAD_NAME);
            }
            atoms++;
            if (atoms > MOST_ATOMS || kind == '[' && depth >= MOST_OPEN) {
                return fail(MANY);
            }
            if (kind != '[') {
                model.emit(kind == WHOLE ? number() : SLOTS + slot);
            } else {
                advance();
                if (!readSum(depth + 1)) {
                    return false;
                }
                if (kind() != ']') {
                    return fail(FORM);
                }
            }
            advance();
            return true;
        }

        /** Where a variable that may stand here lies in the scene. */
        private int slotOf(long name) {
            for (int v = 0; v < machine.variables; v++) {
                if (machine.names[v] == name) {
                    return v;
                }
            }
            if (inLaw && model.count > 1) {
                Machine ahead = model.machines[model.count - 2];
                for (int v = 0; v < ahead.variables; v++) {
                    if (ahead.names[v] == name) {
                        return AHEAD_SLOT + v;
                    }
                }
            }
            return NONE;
        }

        /** Whether a name stands here that wasn't told yet; it is told from now on. */
        private boolean isNewName() {
            if (kind() != NAME) {
                return fail(FORM);
            }
            for (int i = 0; i < toldCount; i++) {
                if (toldNames[i] == code()) {
                    return fail(BAD_NAME);
                }
            }
            if (toldCount < MOST_NAMES) {
                toldNames[toldCount] = code();
                toldCount++;
            }
            return true;
        }

        private boolean isWhole(int least, int most) {
            if (kind() != WHOLE) {
                return fail(FORM);
            }
            return number() >= least && number() <= most || fail(BOUNDS);
        }

        private int startCode() {
            atoms = 0;
            return model.codeSize;
        }

        private boolean stopCode() {
            model.emit(STOP);
            return true;
        }

        private boolean pass(int kind) {
            if (kind() != kind) {
                return fail(FORM);
            }
            advance();
            return true;
        }

        private void advance() {
            if (at < TAPE_BYTES) {
                at++;
            }
        }

        private int kind() {
            return tokens.kinds[at];
        }

        private long code() {
            return tokens.codes[at];
        }

        private int number() {
            return (int) tokens.codes[at];
        }

        private boolean fail(int fault) {
            faultMet = fault;
            faultAt = tokens.places[at];
            return false;
        }
    }

    /** Looks at all cases of a duty; what it found stays known till an event is put aside. */
    private static final class Judge {
        /** What the event that the judged one is of gives from the state ahead. */
        private final StateSet image = new StateSet();
        private Model model;
        private Machine machine;
        private Verdict verdict;
        private int number;

        Verdict verdictOn(Model of, int m, int e, int duty) {
            model = of;
            number = m;
            machine = of.machines[m];
            boolean ofMachine = duty == BEGINS || duty == GOES_ON;
            verdict = machine.verdicts[ofMachine
                    ? MOST_EVENTS * DUTIES_OF_EVENT + duty - BEGINS
                    : e * DUTIES_OF_EVENT + duty];
            if (verdict.known) {
                return verdict;
            }
            verdict.clear();
            if (duty == BEGINS) {
                judgeBegin();
            } else if (duty == GOES_ON) {
                judgeGoingOn();
            } else if (concerns(duty, machine.event[e])) {
                judgeEvent(machine.event[e], duty);
            }
            verdict.known = true;
            return verdict;
        }

        int countOpen(Model of, int m) {
            int count = 0;
            for (int e = 0; e < of.machines[m].events; e++) {
                for (int duty = KEEPS; duty < DUTIES_OF_EVENT; duty++) {
                    count += verdictOn(of, m, e, duty).failing > 0 ? 1 : 0;
                }
            }
            for (int duty = BEGINS; duty <= GOES_ON; duty++) {
                count += verdictOn(of, m, 0, duty).failing > 0 ? 1 : 0;
            }
            return count;
        }

        private boolean concerns(int duty, Event event) {
            if (duty == STRONG) {
                return event.of != ABSENT;
            }
            return duty == KEEPS || number > 0 && event.of == ABSENT;
        }

        private void judgeBegin() {
            int begin = machine.beginState();
            int ahead = number > 0 ? model.machines[number - 1].beginState() : 0;
            if (!paired(ahead, begin)) {
                verdict.note(ahead, begin, 0);
            }
        }

        private void judgeGoingOn() {
            for (int a = 0; a < statesAhead(); a++) {
                if (number > 0 && !model.machines[number - 1].anyCan(a)) {
                    continue;
                }
                for (int s = 0; s < machine.states; s++) {
                    if (paired(a, s) && !machine.anyCan(s)) {
                        verdict.note(a, s, 0);
                    }
                }
            }
        }

        private void judgeEvent(Event event, int duty) {
            for (int a = 0; a < statesAhead(); a++) {
                image.clear();
                boolean strong = true;
                if (event.of != ABSENT && number > 0) {
                    Event wider = model.machines[number - 1].event[event.of];
                    wider.putGiven(a, image);
                    strong = wider.picksAt(a) != 0;
                }
                if (duty == STRONG && strong) {
                    continue;
                }
                for (int s = 0; s < machine.states; s++) {
                    if (paired(a, s)) {
                        judgePicks(event, duty, a, s);
                    }
                }
            }
        }

        private void judgePicks(Event event, int duty, int a, int s) {
            int picks = event.picksAt(s);
            for (int index = 0; picks >> index != 0 && index < MOST_PICKS; index++) {
                if ((picks >> index & 1) == 0) {
                    continue;
                }
                int next = event.after(s, index);
                // cases of STRONG come here only from where they fail
                boolean fails = duty == STRONG || next < 0
                        || duty == LESS && !lessens(s, next)
                        || duty == KEEPS && !keeps(event, a, next);
                if (fails) {
                    verdict.note(a, s, event.first + index);
                }
            }
        }

        private boolean lessens(int s, int next) {
            return machine.variantCode != NONE
                    && machine.variants[next] >= 0
                    && machine.variants[next] < machine.variants[s];
        }

        private boolean keeps(Event event, int a, int next) {
            if (number > 0 && event.of != ABSENT) {
                return machine.glue[next].meets(image);
            }
            return paired(a, next);
        }

        /** Machine 0 has none ahead: its sound states are paired with 0 then. */
        private int statesAhead() {
            return number > 0 ? model.machines[number - 1].states : 1;
        }

        private boolean paired(int a, int s) {
            return number > 0 ? machine.glue[s].has(a) : machine.sound[s];
        }
    }

    /** The run, and the states of the machine ahead that stand beside it. */
    private static final class Walk {
        final StateSet near = new StateSet();
        private final StateSet image = new StateSet();
        int number = NONE;
        int state;
        int made;

        void end() {
            number = NONE;
        }

        void begin(Model model, int m) {
            number = m;
            state = model.machines[m].beginState();
            made = 0;
            near.clear();
            if (m > 0) {
                near.put(model.machines[m - 1].beginState());
                near.keepOnly(model.machines[m].glue[state]);
            }
        }

        void move(Model model, int e, int index) {
            Machine machine = model.machines[number];
            Event event = machine.event[e];
            state = event.after(state, index);
            made++;
            if (number == 0) {
                return;
            }
            if (event.of != ABSENT) {
                Machine ahead = model.machines[number - 1];
                image.clear();
                for (int a = 0; a < ahead.states; a++) {
                    if (near.has(a)) {
                        ahead.event[event.of].putGiven(a, image);
                    }
                }
                near.copy(image);
            }
            near.keepOnly(machine.glue[state]);
        }

        /** Up to n moves by lot: how many were made. */
        int wander(Model model, int n, int seed) {
            long x = seed;
            for (int i = 0; i < n; i++) {
                int choices = countChoices(model.machines[number]);
                if (choices <= 0) {
                    return i;
                }
                x = (1103515245L * x + 12345L) % 2147483648L;
                take(model, (int) (x / 65536L % choices));
            }
            return n;
        }

        private int countChoices(Machine machine) {
            int count = 0;
            for (int e = 0; e < machine.events; e++) {
                count += Integer.bitCount(machine.event[e].stepsAt(state));
            }
            return count;
        }

        private void take(Model model, int choice) {
            Machine machine = model.machines[number];
            int left = choice;
            for (int e = 0; e < machine.events; e++) {
                int picks = machine.event[e].stepsAt(state);
                for (int index = 0; index < MOST_PICKS; index++) {
                    if ((picks >> index & 1) == 0) {
                        continue;
                    }
                    if (left == 0) {
                        move(model, e, index);
                        return;
                    }
                    left--;
                }
            }
        }
    }

    /** The fewest steps from the beginning to each state of a machine. */
    private static final class Paths {
        final int[] far = new int[MOST_STATES];
        private final int[] queue = new int[MOST_STATES];
        int found;

        void explore(Machine machine) {
            Arrays.fill(far, ABSENT);
            found = 0;
            reachState(machine.beginState(), 0);
            for (int i = 0; i < MOST_STATES && i < found; i++) {
                int state = queue[i];
                for (int e = 0; e < machine.events; e++) {
                    reachFrom(machine.event[e], state);
                }
            }
        }

        private void reachFrom(Event event, int state) {
            int picks = event.stepsAt(state);
            for (int index = 0; index < MOST_PICKS; index++) {
                if ((picks >> index & 1) != 0) {
                    reachState(event.after(state, index), far[state] + 1);
                }
            }
        }

        private void reachState(int state, int steps) {
            if (state >= 0 && far[state] == ABSENT && found < MOST_STATES) {
                far[state] = steps;
                queue[found] = state;
                found++;
            }
        }

        /** The queue has like states in the order they were met, so all are looked at by numbers. */
        int firstEnd(Machine machine) {
            int first = ABSENT;
            for (int state = 0; state < machine.states; state++) {
                if (far[state] != ABSENT && machine.eventsFrom(state) == 0
                        && (first == ABSENT || far[state] < far[first])) {
                    first = state;
                }
            }
            return first;
        }

        int countUnsound(Machine machine) {
            int count = 0;
            for (int state = 0; state < machine.states; state++) {
                if (far[state] != ABSENT && !machine.sound[state]) {
                    count++;
                }
            }
            return count;
        }
    }

    /** What write() has written last. */
    private static final class Scroll {
        final byte[] bytes = new byte[2 * MOST_VARIABLES * (LONGEST_WORD + 3) + 8];
        int count;

        void clear() {
            count = 0;
        }

        void putState(Machine machine, int state) {
            for (int v = 0; v < machine.variables; v++) {
                long name = machine.names[v];
                int length = lengthOf(name);
                for (int k = 0; k < length; k++) {
                    put((char) ('a' + letterOf(name, k)));
                }
                put('=');
                putNumber(machine.number(state, v));
                put(' ');
            }
        }

        void putText(String text) {
            for (int i = 0; i < text.length(); i++) {
                put(text.charAt(i));
            }
        }

        /** Variables and picks have two digits at most. */
        void putNumber(int number) {
            if (number > 9) {
                put((char) ('0' + number / 10 % 10));
            }
            put((char) ('0' + number % 10));
        }

        private void put(char sign) {
            if (count < bytes.length) {
                bytes[count] = (byte) sign;
                count++;
            }
        }
    }
}
