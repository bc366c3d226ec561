import java.util.Arrays;

/**
 * Machines of states whose moves and answers are told or left open, made small, split into parts and coded by bits.
 * The words in capitals are those of the document.
 */
public final class StateMill {
    public static final int NONE = -1;

    private static final int OPEN = -2;
    private static final int MOST_STATES = 6;
    private static final int MOST_INPUTS = 4;
    private static final int MOST_PAIRS = 15;
    private static final int MOST_SETS = 64;
    private static final int MOST_BITS = 3;
    private static final int MOST_CODES = 8;
    private static final int MOST_ANSWER = 3;
    private static final int MOST_DIGITS = 8;
    /** Above every COST and SUM. */
    private static final int NO_LIMIT = 1000;
    /** Of any two STATES the one bit of 15 that stands for them; of one and the same: none. */
    private static final int[] PAIR_MASKS = {
        0, 1, 2, 4, 8, 16,
        1, 0, 32, 64, 128, 256,
        2, 32, 0, 512, 1024, 2048,
        4, 64, 512, 0, 4096, 8192,
        8, 128, 1024, 4096, 0, 16384,
        16, 256, 2048, 8192, 16384, 0
    };

    private final Machine machine = new Machine();
    private final History history = new History(machine);
    private final Tape tape = new Tape();
    private final Tokens tokens = new Tokens(tape);
    private final Reader reader = new Reader(tape, tokens);
    private final Pairs pairs = new Pairs(machine);
    private final Cover cover = new Cover(machine, pairs);
    private final Partitions partitions = new Partitions(machine, pairs);
    private final Hanging hanging = new Hanging(machine, pairs);
    private final Cubes cubes = new Cubes(machine);
    private final Best finest = new Best(machine, hanging, cubes);
    private int faultPlace = NONE;

    public StateMill() {
    }

    public int feed(int a, int b, int c, int d, int e) {
        if (!tape.hasRoom()) {
            return NONE;
        }
        tape.put(a);
        tape.put(b);
        tape.put(c);
        tape.put(d);
        tape.put(e);
        return tape.length;
    }

    public int back(int n) {
        if (n < 0 || n > tape.length) {
            return NONE;
        }
        tape.length -= n;
        return tape.length;
    }

    public int read() {
        int fault = reader.check();
        faultPlace = reader.place;
        if (fault == 0) {
            reader.apply(machine);
            history.forgetDeeds();
            history.emptySlots();
        }
        tape.length = 0;
        return fault;
    }

    public int place() {
        return faultPlace;
    }

    public boolean set(int state, int input, int to, int answer) {
        boolean known = machine.hasState(state) && machine.hasInput(input)
            && (to == OPEN || machine.hasState(to))
            && (answer == OPEN || answer >= 0 && answer <= MOST_ANSWER);
        if (!known || machine.targetOf(state, input) == to && machine.answerOf(state, input) == answer) {
            return false;
        }
        history.keepMove(state, input);
        machine.putMove(state, input, to, answer);
        return true;
    }

    public boolean code(int state, int code) {
        if (!machine.hasState(state) || code < 0 || code >= MOST_CODES || machine.codes[state] == code) {
            return false;
        }
        history.keepCode(state);
        machine.putCode(state, code);
        return true;
    }

    public boolean undo() {
        return history.takeBack();
    }

    public int move(int state, int input, int what) {
        if (!machine.hasState(state) || !machine.hasInput(input) || what < 0 || what > 1) {
            return NONE;
        }
        return what == 0 ? machine.targetOf(state, input) : machine.answerOf(state, input);
    }

    public int apart(int state, int other, int what) {
        if (!machine.hasState(state) || !machine.hasState(other) || what < 0 || what > 1) {
            return NONE;
        }
        int round = pairsNow().roundOf(state, other);
        if (what == 1) {
            return round;
        }
        return round == OPEN ? 0 : 1;
    }

    public int word(int state, int other, int i) {
        if (!machine.hasState(state) || !machine.hasState(other)) {
            return NONE;
        }
        int round = pairsNow().roundOf(state, other);
        if (round == OPEN) {
            return OPEN;
        }
        int length = round + 1;
        if (i == NONE) {
            return length;
        }
        return i >= 0 && i < length ? pairs.wordInput(state, other, i) : NONE;
    }

    public int shown(int i) {
        int length = pairsNow().lengthShown();
        if (length == OPEN || i == NONE) {
            return length;
        }
        return i >= 0 && i < length ? pairs.shownWord[i] : NONE;
    }

    public int classes() {
        return coverNow().setCount;
    }

    public int greatest(int i) {
        int many = coverNow().greatestCount;
        if (i == NONE) {
            return many;
        }
        return i >= 0 && i < many ? cover.greatestSets[i] : NONE;
    }

    public int fewest(int i) {
        int many = fewestNow().fewestCount;
        if (i == NONE) {
            return many;
        }
        return i >= 0 && i < many ? cover.fewestSets[i] : NONE;
    }

    public int isClass(int set) {
        if (set == 0 || !machine.hasSet(set)) {
            return NONE;
        }
        return coverNow().alike[set] ? 1 : 0;
    }

    public int leads(int set, int input) {
        return machine.hasSet(set) && machine.hasInput(input) ? machine.leadOf(set, input) : NONE;
    }

    public int small(int state, int input, int what) {
        if (!fewestNow().hasFewest(state) || !machine.hasInput(input) || what < 0 || what > 1) {
            return NONE;
        }
        return what == 0 ? cover.smallTarget(state, input) : cover.smallAnswer(state, input);
    }

    public int home(int state) {
        return machine.hasState(state) ? fewestNow().homeOf(state) : NONE;
    }

    public int met(int state) {
        return machine.hasState(state) ? fewestNow().metBy(state) : NONE;
    }

    public int run(int state, int word, int n, int what) {
        if (!machine.hasState(state) || !machine.hasWord(word, n) || what < 0 || what > 4) {
            return NONE;
        }
        int now = state;
        int smallNow = fewestNow().homeOf(state);
        int gone = 0;
        int alike = 0;
        int told = 0;
        for (int k = 0; k < n; k++) {
            int input = Machine.digitOf(word, n, k);
            int answer = machine.answerOf(now, input);
            if (answer != OPEN) {
                told++;
                alike += cover.smallAnswer(smallNow, input) == answer ? 1 : 0;
            }
            int next = machine.targetOf(now, input);
            if (next < 0) {
                break;
            }
            smallNow = cover.smallTarget(smallNow, input);
            now = next;
            gone++;
        }
        switch (what) {
            case 0: return gone;
            case 1: return now;
            case 2: return smallNow;
            case 3: return alike;
            default: return told;
        }
    }

    public int goesOn(int partition) {
        int index = partitionsNow().indexOf(partition);
        if (index == NONE) {
            return NONE;
        }
        return partitions.stays(index) ? 1 : 0;
    }

    public int together(int state, int other) {
        return machine.hasState(state) && machine.hasState(other) ? partitionsNow().joined(state, other) : NONE;
    }

    public int partition(int i) {
        int many = partitionsNow().goingCount;
        if (i == NONE) {
            return many;
        }
        return i >= 0 && i < many ? partitions.numbers[partitions.going[i]] : NONE;
    }

    public int into(int partition) {
        int index = partitionsNow().indexOf(partition);
        return index == NONE ? NONE : partitions.intoOf(index);
    }

    public int split(int what) {
        if (what < 0 || what > 2) {
            return NONE;
        }
        partitionsNow().refreshSplit();
        switch (what) {
            case 0: return partitions.splitOne;
            case 1: return partitions.splitOther;
            default: return partitions.splitBlocks;
        }
    }

    public int tail(int partition) {
        int index = partitionsNow().goingIndexOf(partition);
        return index == NONE ? NONE : partitions.numbers[partitions.tailOf(index)];
    }

    public int part(int partition, int block, int input) {
        int index = partitionsNow().goingIndexOf(partition);
        if (index == NONE || !partitions.hasBlock(index, block) || !machine.hasInput(input)) {
            return NONE;
        }
        return partitions.blockBehind(index, block, input);
    }

    public int series(int partition, int head, int tail, int input, int what) {
        int index = partitionsNow().goingIndexOf(partition);
        if (index == NONE || !partitions.hasBlock(index, head) || !machine.hasInput(input) || what < 0 || what > 1) {
            return NONE;
        }
        int behind = partitions.tailOf(index);
        if (!partitions.hasBlock(behind, tail)) {
            return NONE;
        }
        if (what == 0) {
            return partitions.blockBehind(index, head, input);
        }
        int both = partitions.statesOf(index, head) & partitions.statesOf(behind, tail);
        int led = both == 0 ? 0 : machine.leadOf(both, input);
        return led == 0 ? OPEN : partitions.blockOf(behind, Integer.numberOfTrailingZeros(led));
    }

    public int beside(int one, int other, int state, int word, int n) {
        int first = partitionsNow().goingIndexOf(one);
        int second = partitions.goingIndexOf(other);
        if (first == NONE || second == NONE || !machine.hasState(state) || !machine.hasWord(word, n)) {
            return NONE;
        }
        int firstBlock = partitions.blockOf(first, state);
        int secondBlock = partitions.blockOf(second, state);
        for (int k = 0; k < n; k++) {
            int input = Machine.digitOf(word, n, k);
            int firstNext = partitions.blockBehind(first, firstBlock, input);
            int secondNext = partitions.blockBehind(second, secondBlock, input);
            if (firstNext == OPEN || secondNext == OPEN) {
                break;
            }
            firstBlock = firstNext;
            secondBlock = secondNext;
        }
        return partitions.statesOf(first, firstBlock) & partitions.statesOf(second, secondBlock);
    }

    public int hangs(int bit, int what) {
        if (!machine.hasBit(bit) || what < 0 || what > 1) {
            return NONE;
        }
        int bits = hangingNow().leastSet(bit);
        return bits == OPEN || what == 1 ? bits : Integer.bitCount(bits);
    }

    public int cost() {
        return hangingNow().total();
    }

    public int cube(int bit, int input, int i) {
        if (!machine.hasBit(bit) || !machine.hasInput(input)) {
            return NONE;
        }
        if (!machine.isProper()) {
            return OPEN;
        }
        int many = cubes.list(bit, input);
        if (i == NONE) {
            return many;
        }
        return i >= 0 && i < many ? cubes.listed[i] : NONE;
    }

    public int sum() {
        return machine.isProper() ? cubes.total(machine.codes, machine.states, NO_LIMIT) : OPEN;
    }

    public int coded(int code, int input) {
        if (code < 0 || code >= 1 << machine.bits() || !machine.hasInput(input)) {
            return NONE;
        }
        return machine.isProper() ? cubes.nextCode(code, input) : OPEN;
    }

    public int best(int by, int state) {
        if (by < 0 || by > 1 || state != NONE && !machine.hasState(state)) {
            return NONE;
        }
        pairs.refresh();
        finest.refresh(by);
        return state == NONE ? finest.values[by] : finest.codes[by * MOST_STATES + state];
    }

    public boolean hold(int slot) {
        return history.keepSlot(slot);
    }

    public boolean restore(int slot) {
        return history.takeSlot(slot);
    }

    public int count(int what) {
        switch (what) {
            case 0: return machine.states;
            case 1: return machine.inputs;
            case 2: return machine.openMoves();
            case 3: return machine.toldAnswers();
            case 4: return pairsNow().apartCount();
            case 5: return pairsNow().greatestRound();
            case 6: return machine.bits();
            case 7: return machine.codeNumber();
            case 8: return tape.length;
            case 9: return history.deedCount;
            case 10: return history.slotCount();
            case 11: return machine.unreached();
            case 12: return machine.isProper() ? 1 : 0;
            case 13: return fewestNow().metCount();
            case 14: return partitionsNow().leastBlocks();
            default: return NONE;
        }
    }

    private Pairs pairsNow() {
        pairs.refresh();
        return pairs;
    }

    private Cover coverNow() {
        pairs.refresh();
        cover.refresh();
        return cover;
    }

    private Cover fewestNow() {
        pairs.refresh();
        cover.refresh();
        cover.refreshFewest();
        return cover;
    }

    private Partitions partitionsNow() {
        pairs.refresh();
        partitions.refresh();
        return partitions;
    }

    private Hanging hangingNow() {
        pairs.refresh();
        hanging.load(machine.codes);
        return hanging;
    }

    private static int pairOf(int state, int other) {
        int at = state * MOST_STATES + other;
        return at >= 0 && at < PAIR_MASKS.length ? PAIR_MASKS[at] : 0;
    }

    /** STATES with their MOVES, ANSWERS and codes: the one at work, and what a SLOT holds. */
    private static final class Machine {
        private static final int FIRST_INPUTS = 2;

        int states;
        int inputs;
        /** Grows with every change but one of codes: what was reckoned at another age is old. */
        int age;
        final int[] targets = new int[MOST_STATES * MOST_INPUTS];
        final int[] answers = new int[MOST_STATES * MOST_INPUTS];
        final int[] codes = new int[MOST_STATES];

        Machine() {
            begin(0, FIRST_INPUTS);
        }

        void begin(int newStates, int newInputs) {
            states = newStates;
            inputs = newInputs;
            Arrays.fill(targets, OPEN);
            Arrays.fill(answers, OPEN);
            for (int state = 0; state < MOST_STATES; state++) {
                codes[state] = state;
            }
            age++;
        }

        void copyFrom(Machine other) {
            states = other.states;
            inputs = other.inputs;
            System.arraycopy(other.targets, 0, targets, 0, targets.length);
            System.arraycopy(other.answers, 0, answers, 0, answers.length);
            System.arraycopy(other.codes, 0, codes, 0, codes.length);
            age++;
        }

        boolean hasState(int state) {
            return state >= 0 && state < states;
        }

        boolean hasInput(int input) {
            return input >= 0 && input < inputs;
        }

        boolean hasSet(int set) {
            return set >= 0 && set < 1 << states;
        }

        boolean hasBit(int bit) {
            return bit >= 0 && bit < bits();
        }

        boolean hasWord(int word, int n) {
            if (n < 0 || n > MOST_DIGITS || word < 0 || word >> 2 * n != 0) {
                return false;
            }
            for (int k = 0; k < n; k++) {
                if (!hasInput(digitOf(word, n, k))) {
                    return false;
                }
            }
            return true;
        }

        static int digitOf(int word, int n, int k) {
            return word >> 2 * (n - 1 - k) & 3;
        }

        int targetOf(int state, int input) {
            return state >= 0 && state < states && input >= 0 && input < inputs ? targets[state * MOST_INPUTS + input] : OPEN;
        }

        int answerOf(int state, int input) {
            return state >= 0 && state < states && input >= 0 && input < inputs ? answers[state * MOST_INPUTS + input] : OPEN;
        }

        void putMove(int state, int input, int to, int answer) {
            if (hasState(state) && hasInput(input)) {
                targets[state * MOST_INPUTS + input] = to;
                answers[state * MOST_INPUTS + input] = answer;
                age++;
            }
        }

        void putCode(int state, int code) {
            if (hasState(state)) {
                codes[state] = code;
            }
        }

        int leadOf(int set, int input) {
            int led = 0;
            for (int state = 0; state < states; state++) {
                int to = targetOf(state, input);
                if ((set >> state & 1) == 1 && to >= 0) {
                    led |= 1 << to;
                }
            }
            return led;
        }

        int bits() {
            if (states <= 1) {
                return 0;
            }
            return states == 2 ? 1 : states <= 4 ? 2 : 3;
        }

        boolean isProper() {
            int used = 0;
            for (int state = 0; state < states; state++) {
                if (codes[state] >= 1 << bits() || (used >> codes[state] & 1) == 1) {
                    return false;
                }
                used |= 1 << codes[state];
            }
            return true;
        }

        int codeNumber() {
            int number = 0;
            for (int state = 0; state < states; state++) {
                number |= codes[state] << 3 * state;
            }
            return number;
        }

        int openMoves() {
            int open = 0;
            for (int state = 0; state < states; state++) {
                for (int input = 0; input < inputs; input++) {
                    open += targetOf(state, input) == OPEN ? 1 : 0;
                }
            }
            return open;
        }

        int toldAnswers() {
            int told = 0;
            for (int state = 0; state < states; state++) {
                for (int input = 0; input < inputs; input++) {
                    told += answerOf(state, input) == OPEN ? 0 : 1;
                }
            }
            return told;
        }

        int unreached() {
            int reached = 0;
            for (int state = 0; state < states; state++) {
                for (int input = 0; input < inputs; input++) {
                    reached |= leadOf(1 << state, input) & ~(1 << state);
                }
            }
            return (1 << states) - 1 & ~reached;
        }
    }

    /** What was done by hand, so that it can be undone, and the SLOTS. */
    private static final class History {
        private static final int MOST_DEEDS = 40;
        private static final int MOST_SLOTS = 3;

        private final Machine machine;
        /** A ring, for the oldest deed gives its place to the newest. */
        private final int[] states = new int[MOST_DEEDS];
        private final int[] inputs = new int[MOST_DEEDS];
        private final int[] targetsOrCodes = new int[MOST_DEEDS];
        private final int[] answers = new int[MOST_DEEDS];
        private int nextDeed;
        int deedCount;
        private final Machine[] slots = new Machine[MOST_SLOTS];
        private final boolean[] full = new boolean[MOST_SLOTS];

        History(Machine machine) {
            this.machine = machine;
            for (int slot = 0; slot < MOST_SLOTS; slot++) {
                slots[slot] = new Machine();
            }
        }

        void keepMove(int state, int input) {
            keep(state, input, machine.targetOf(state, input), machine.answerOf(state, input));
        }

        void keepCode(int state) {
            if (machine.hasState(state)) {
                keep(state, NONE, machine.codes[state], OPEN);
            }
        }

        private void keep(int state, int input, int targetOrCode, int answer) {
            states[nextDeed] = state;
            inputs[nextDeed] = input;
            targetsOrCodes[nextDeed] = targetOrCode;
            answers[nextDeed] = answer;
            nextDeed = (nextDeed + 1) % MOST_DEEDS;
            deedCount = Math.min(deedCount + 1, MOST_DEEDS);
        }

        boolean takeBack() {
            if (deedCount == 0) {
                return false;
            }
            deedCount--;
            nextDeed = (nextDeed + MOST_DEEDS - 1) % MOST_DEEDS;
            if (inputs[nextDeed] == NONE) {
                machine.putCode(states[nextDeed], targetsOrCodes[nextDeed]);
            } else {
                machine.putMove(states[nextDeed], inputs[nextDeed], targetsOrCodes[nextDeed], answers[nextDeed]);
            }
            return true;
        }

        void forgetDeeds() {
            deedCount = 0;
        }

        void emptySlots() {
            for (int slot = 0; slot < MOST_SLOTS; slot++) {
                full[slot] = false;
            }
        }

        boolean keepSlot(int slot) {
            if (slot < 0 || slot >= MOST_SLOTS) {
                return false;
            }
            slots[slot].copyFrom(machine);
            full[slot] = true;
            return true;
        }

        boolean takeSlot(int slot) {
            if (slot < 0 || slot >= MOST_SLOTS || !full[slot]) {
                return false;
            }
            machine.copyFrom(slots[slot]);
            forgetDeeds();
            return true;
        }

        int slotCount() {
            int held = 0;
            for (int slot = 0; slot < MOST_SLOTS; slot++) {
                held += full[slot] ? 1 : 0;
            }
            return held;
        }
    }

    /** The bytes that were fed and not yet read. */
    private static final class Tape {
        private static final int MOST_BYTES = 2000;
        private static final int FED_AT_ONCE = 20;

        private final byte[] bytes = new byte[MOST_BYTES];
        int length;

        boolean hasRoom() {
            return length + FED_AT_ONCE <= MOST_BYTES;
        }

        void put(int four) {
            for (int shift = 24; shift >= 0 && length < MOST_BYTES; shift -= 8) {
                bytes[length] = (byte) (four >> shift);
                length++;
            }
        }

        /** A byte that is a part of no TOKEN stands for the end, too. */
        int byteAt(int at) {
            return at >= 0 && at < length && at < MOST_BYTES ? bytes[at] : 0;
        }

        boolean isLetter(int at) {
            return byteAt(at) >= 'a' && byteAt(at) <= 'z';
        }

        boolean isDigit(int at) {
            return byteAt(at) >= '0' && byteAt(at) <= '9';
        }

        private boolean isBlank(int at) {
            int sign = byteAt(at);
            return sign == 9 || sign == 10 || sign == 13 || sign == 32;
        }

        int skipBlanks(int from) {
            int at = from;
            while (at < length && isBlank(at)) {
                at++;
            }
            return at;
        }

        int endOfRun(int from) {
            int at = from + 1;
            if (isLetter(from)) {
                while (at < length && isLetter(at)) {
                    at++;
                }
            } else if (isDigit(from)) {
                while (at < length && isDigit(at)) {
                    at++;
                }
            }
            return at;
        }

        boolean says(int from, int size, String word) {
            if (size != word.length()) {
                return false;
            }
            for (int k = 0; k < size; k++) {
                if (byteAt(from + k) != word.charAt(k)) {
                    return false;
                }
            }
            return true;
        }

        boolean saysAlike(int from, int other, int size) {
            for (int k = 0; k < size; k++) {
                if (byteAt(from + k) != byteAt(other + k)) {
                    return false;
                }
            }
            return true;
        }

        int numberAt(int from, int size) {
            int number = 0;
            for (int k = 0; k < size; k++) {
                number = number * 10 + byteAt(from + k) - '0';
            }
            return number;
        }
    }

    /** The TOKENS of the tape, looked at for SYNTAX and ROOM. */
    private static final class Tokens {
        static final int NO_TOKEN = 0;
        static final int NAME = 1;
        static final int INT = 2;
        static final int SIGN = 3;
        static final int STATE = 4;
        static final int INPUTS = 5;
        static final int MOVE = 6;
        static final int CODE = 7;
        static final int OPENLY = 8;

        private static final int SYNTAX = 1;
        private static final int ROOM = 2;
        private static final int MOST_TOKENS = 400;
        private static final int MOST_LETTERS = 8;
        private static final int MOST_INT_DIGITS = 4;

        private final Tape tape;
        final int[] kinds = new int[MOST_TOKENS];
        final int[] starts = new int[MOST_TOKENS];
        final int[] sizes = new int[MOST_TOKENS];
        int count;
        int fault;
        int place;
        private int stateLines;

        Tokens(Tape tape) {
            this.tape = tape;
        }

        void scan() {
            count = 0;
            fault = 0;
            place = NONE;
            stateLines = 0;
            String shape = "";
            int due = 0;
            int at = tape.skipBlanks(0);
            for (int turn = 0; turn <= MOST_TOKENS && at < tape.length && fault == 0; turn++) {
                int end = tape.endOfRun(at);
                int kind = kindOf(at, end - at);
                if (due < shape.length()) {
                    fail(fits(shape.charAt(due), kind) ? 0 : SYNTAX, at);
                    due++;
                } else {
                    fail(beginning(kind), at);
                    shape = shapeOf(kind);
                    due = 0;
                }
                keep(kind, at, end - at);
                at = tape.skipBlanks(end);
            }
            if (due < shape.length()) {
                fail(SYNTAX, tape.length);
            }
        }

        /** The first FAULT stays: the text is gone through by place, and SYNTAX is asked before ROOM. */
        private void fail(int number, int at) {
            if (fault == 0 && number != 0) {
                fault = number;
                place = at;
            }
        }

        private void keep(int kind, int at, int size) {
            if (count >= MOST_TOKENS) {
                fail(ROOM, at);
                return;
            }
            kinds[count] = kind;
            starts[count] = at;
            sizes[count] = size;
            count++;
        }

        private int beginning(int kind) {
            if (shapeOf(kind).isEmpty()) {
                return SYNTAX;
            }
            stateLines += kind == STATE ? 1 : 0;
            return stateLines > MOST_STATES ? ROOM : 0;
        }

        private int kindOf(int at, int size) {
            if (tape.isDigit(at)) {
                return size <= MOST_INT_DIGITS ? INT : NO_TOKEN;
            }
            if (!tape.isLetter(at)) {
                return tape.byteAt(at) == ';' ? SIGN : NO_TOKEN;
            }
            if (tape.says(at, size, "state")) {
                return STATE;
            }
            if (tape.says(at, size, "inputs")) {
                return INPUTS;
            }
            if (tape.says(at, size, "move")) {
                return MOVE;
            }
            if (tape.says(at, size, "code")) {
                return CODE;
            }
            if (tape.says(at, size, "open")) {
                return OPENLY;
            }
            return size <= MOST_LETTERS ? NAME : NO_TOKEN;
        }

        /** What a line's first word wants behind it: n a NAME, i an INT, t a NAME or 'open', a an INT or 'open'. */
        static String shapeOf(int kind) {
            switch (kind) {
                case STATE: return "n;";
                case INPUTS: return "i;";
                case MOVE: return "nita;";
                case CODE: return "ni;";
                default: return "";
            }
        }

        private static boolean fits(char due, int kind) {
            if (due == 'n' || due == 't') {
                return kind == NAME || due == 't' && kind == OPENLY;
            }
            if (due == 'i' || due == 'a') {
                return kind == INT || due == 'a' && kind == OPENLY;
            }
            return kind == SIGN;
        }
    }

    /** What the lines of a text without SYNTAX and ROOM mean. */
    private static final class Reader {
        private static final int TWICE = 3;
        private static final int UNKNOWN = 4;
        private static final int WRONG = 5;
        private static final int INPUTS_UNTOLD = 2;

        private final Tape tape;
        private final Tokens tokens;
        /** The TOKENS that name the STATES. */
        private final int[] names = new int[MOST_STATES];
        private int nameCount;
        private int inputs;
        private int fault;
        int place;

        Reader(Tape tape, Tokens tokens) {
            this.tape = tape;
            this.tokens = tokens;
        }

        int check() {
            tokens.scan();
            fault = tokens.fault;
            place = tokens.place;
            if (fault == 0) {
                gather();
                for (int line = 0; line < tokens.count && fault == 0; line += lengthOf(line)) {
                    checkLine(line);
                }
            }
            return fault;
        }

        /** Ahead of all else, for a line may speak of what only a later one tells. */
        private void gather() {
            nameCount = 0;
            inputs = INPUTS_UNTOLD;
            for (int line = 0; line < tokens.count; line += lengthOf(line)) {
                int kind = tokens.kinds[line];
                if (kind == Tokens.STATE && nameCount < MOST_STATES) {
                    names[nameCount] = line + 1;
                    nameCount++;
                } else if (kind == Tokens.INPUTS && isInputs(valueOf(line + 1))) {
                    inputs = valueOf(line + 1);
                }
            }
        }

        private static boolean isInputs(int value) {
            return value >= 1 && value <= MOST_INPUTS;
        }

        private int lengthOf(int line) {
            return 1 + Tokens.shapeOf(tokens.kinds[line]).length();
        }

        private void checkLine(int line) {
            switch (tokens.kinds[line]) {
                case Tokens.STATE:
                    failIf(stateIn(line + 1) >= 0 && names[stateIn(line + 1)] != line + 1, TWICE, line + 1);
                    break;
                case Tokens.INPUTS:
                    failIf(!isInputs(valueOf(line + 1)), WRONG, line + 1);
                    break;
                case Tokens.MOVE:
                    failIf(stateIn(line + 1) < 0, UNKNOWN, line + 1);
                    failIf(valueOf(line + 2) >= inputs, WRONG, line + 2);
                    failIf(!isOpen(line + 3) && stateIn(line + 3) < 0, UNKNOWN, line + 3);
                    failIf(!isOpen(line + 4) && valueOf(line + 4) > MOST_ANSWER, WRONG, line + 4);
                    break;
                default:
                    failIf(stateIn(line + 1) < 0, UNKNOWN, line + 1);
                    failIf(valueOf(line + 2) >= MOST_CODES, WRONG, line + 2);
                    break;
            }
        }

        private void failIf(boolean failed, int number, int token) {
            if (failed && fault == 0 && isToken(token)) {
                fault = number;
                place = tokens.starts[token];
            }
        }

        private boolean isToken(int token) {
            return token >= 0 && token < tokens.count;
        }

        private boolean isOpen(int token) {
            return isToken(token) && tokens.kinds[token] == Tokens.OPENLY;
        }

        private int valueOf(int token) {
            return isToken(token) ? tape.numberAt(tokens.starts[token], tokens.sizes[token]) : NONE;
        }

        private int stateIn(int token) {
            if (!isToken(token)) {
                return NONE;
            }
            for (int state = 0; state < nameCount; state++) {
                int name = names[state];
                if (tokens.sizes[name] == tokens.sizes[token]
                    && tape.saysAlike(tokens.starts[name], tokens.starts[token], tokens.sizes[name])) {
                    return state;
                }
            }
            return NONE;
        }

        void apply(Machine machine) {
            machine.begin(nameCount, inputs);
            for (int line = 0; line < tokens.count; line += lengthOf(line)) {
                int kind = tokens.kinds[line];
                if (kind == Tokens.MOVE) {
                    int to = isOpen(line + 3) ? OPEN : stateIn(line + 3);
                    int answer = isOpen(line + 4) ? OPEN : valueOf(line + 4);
                    machine.putMove(stateIn(line + 1), valueOf(line + 2), to, answer);
                } else if (kind == Tokens.CODE) {
                    machine.putCode(stateIn(line + 1), valueOf(line + 2));
                }
            }
        }
    }

    /** Two STATES each, as one bit of 15: where two are led, which are APART, by which words. */
    private static final class Pairs {
        private static final int MOST_SHOWN = 6;
        private static final int NOWHERE = 7;

        private final Machine machine;
        /** Of each pair all pairs to which one INPUT leads it. */
        private final int[] follows = new int[MOST_PAIRS];
        private final int[] rounds = new int[MOST_PAIRS];
        int apartMask;
        private int seen = NONE;
        final int[] shownWord = new int[MOST_SHOWN];
        private int shownLength;
        private int shownSeen = NONE;

        Pairs(Machine machine) {
            this.machine = machine;
        }

        void refresh() {
            if (seen == machine.age) {
                return;
            }
            seen = machine.age;
            apartMask = 0;
            Arrays.fill(follows, 0);
            Arrays.fill(rounds, OPEN);
            for (int low = 0; low < machine.states; low++) {
                for (int high = low + 1; high < machine.states; high++) {
                    look(low, high);
                }
            }
            for (int round = 1; round <= MOST_PAIRS; round++) {
                goRound(round);
            }
        }

        private void look(int low, int high) {
            int pair = Integer.numberOfTrailingZeros(pairOf(low, high));
            if (pair >= MOST_PAIRS) {
                return;
            }
            for (int input = 0; input < machine.inputs; input++) {
                follows[pair] |= stepOf(low, high, input);
                if (isUnlike(low, high, input)) {
                    rounds[pair] = 0;
                    apartMask |= 1 << pair;
                }
            }
        }

        private void goRound(int round) {
            int known = apartMask;
            for (int pair = 0; pair < MOST_PAIRS; pair++) {
                if ((known >> pair & 1) == 0 && (follows[pair] & known) != 0) {
                    rounds[pair] = round;
                    apartMask |= 1 << pair;
                }
            }
        }

        private int stepOf(int state, int other, int input) {
            int to = machine.targetOf(state, input);
            int otherTo = machine.targetOf(other, input);
            return to < 0 || otherTo < 0 ? 0 : pairOf(to, otherTo);
        }

        private boolean isUnlike(int state, int other, int input) {
            int answer = machine.answerOf(state, input);
            int otherAnswer = machine.answerOf(other, input);
            return answer >= 0 && otherAnswer >= 0 && answer != otherAnswer;
        }

        int apartCount() {
            return Integer.bitCount(apartMask);
        }

        int greatestRound() {
            int greatest = OPEN;
            for (int pair = 0; pair < MOST_PAIRS; pair++) {
                greatest = Math.max(greatest, rounds[pair]);
            }
            return greatest;
        }

        int roundOf(int state, int other) {
            return roundIn(pairOf(state, other));
        }

        private int roundIn(int pairMask) {
            return pairMask == 0 ? OPEN : rounds[Integer.numberOfTrailingZeros(pairMask)];
        }

        /** All pairs to which one INPUT leads one of these. */
        int followed(int pairMask) {
            int led = 0;
            for (int pair = 0; pair < MOST_PAIRS; pair++) {
                if ((pairMask >> pair & 1) == 1) {
                    led |= follows[pair];
                }
            }
            return led;
        }

        int wordInput(int state, int other, int i) {
            int now = state;
            int otherNow = other;
            int input = firstInput(now, otherNow);
            for (int k = 0; k < i; k++) {
                now = machine.targetOf(now, input);
                otherNow = machine.targetOf(otherNow, input);
                input = firstInput(now, otherNow);
            }
            return input;
        }

        /** A WORD is the shortest if each INPUT of it takes the two one ROUND down. */
        private int firstInput(int state, int other) {
            if (!machine.hasState(state) || !machine.hasState(other)) {
                return NONE;
            }
            int round = roundOf(state, other);
            for (int input = 0; input < machine.inputs; input++) {
                boolean down = round == 0
                    ? isUnlike(state, other, input)
                    : roundIn(stepOf(state, other, input)) == round - 1;
                if (down) {
                    return input;
                }
            }
            return NONE;
        }

        int lengthShown() {
            if (shownSeen != machine.age) {
                shownSeen = machine.age;
                shownLength = OPEN;
                for (int size = 0; size <= MOST_SHOWN && shownLength == OPEN; size++) {
                    if (seek(0, size, startStand(), 0)) {
                        shownLength = size;
                    }
                }
            }
            return shownLength;
        }

        /** Three bits a STATE: where the word has led it by now. */
        private static int startStand() {
            int stand = 0;
            for (int state = 0; state < MOST_STATES; state++) {
                stand |= state << 3 * state;
            }
            return stand;
        }

        private boolean seek(int depth, int size, int stand, int told) {
            if (!canTell(stand, told, size - depth)) {
                return false;
            }
            if (depth >= size) {
                return true;
            }
            for (int input = 0; input < machine.inputs; input++) {
                shownWord[depth] = input;
                if (seek(depth + 1, size, standBehind(stand, input), told | toldBy(stand, input))) {
                    return true;
                }
            }
            return false;
        }

        /** Two that still have to be told apart must stand where a word of the INPUTS that are left can do it. */
        private boolean canTell(int stand, int told, int left) {
            for (int low = 0; low < machine.states; low++) {
                for (int high = low + 1; high < machine.states; high++) {
                    if ((apartMask & ~told & pairOf(low, high)) != 0) {
                        int round = roundBetween(stand >> 3 * low & 7, stand >> 3 * high & 7);
                        if (round == OPEN || round >= left) {
                            return false;
                        }
                    }
                }
            }
            return true;
        }

        private int roundBetween(int state, int other) {
            return state == NOWHERE || other == NOWHERE ? OPEN : roundIn(pairOf(state, other));
        }

        private int standBehind(int stand, int input) {
            int behind = 0;
            for (int state = 0; state < machine.states; state++) {
                int to = machine.targetOf(stand >> 3 * state & 7, input);
                behind |= (to < 0 ? NOWHERE : to) << 3 * state;
            }
            return behind;
        }

        private int toldBy(int stand, int input) {
            int told = 0;
            for (int low = 0; low < machine.states; low++) {
                for (int high = low + 1; high < machine.states; high++) {
                    if (isUnlike(stand >> 3 * low & 7, stand >> 3 * high & 7, input)) {
                        told |= pairOf(low, high);
                    }
                }
            }
            return told;
        }
    }

    /** CLASSES, GREATEST and FEWEST, and the SMALL machine. */
    private static final class Cover {
        private final Machine machine;
        private final Pairs pairs;
        final boolean[] alike = new boolean[MOST_SETS];
        private final int[] sets = new int[MOST_SETS];
        int setCount;
        private int widest;
        final int[] greatestSets = new int[MOST_SETS];
        int greatestCount;
        private int seen = NONE;
        /** Of each CLASS by each INPUT the set to which it leads. */
        private final int[] wants = new int[MOST_SETS * MOST_INPUTS];
        private final int[] chosen = new int[MOST_STATES];
        final int[] fewestSets = new int[MOST_STATES];
        int fewestCount;
        private int fewestSeen = NONE;

        Cover(Machine machine, Pairs pairs) {
            this.machine = machine;
            this.pairs = pairs;
        }

        void refresh() {
            if (seen == machine.age) {
                return;
            }
            seen = machine.age;
            setCount = 0;
            widest = 0;
            int apart = pairs.apartMask;
            for (int set = 1; set < 1 << machine.states; set++) {
                alike[set] = (pairsIn(set) & apart) == 0;
                if (alike[set]) {
                    addClass(set);
                }
            }
            gatherGreatest();
        }

        private int pairsIn(int set) {
            int inside = 0;
            for (int low = 0; low < machine.states; low++) {
                for (int high = low + 1; high < machine.states; high++) {
                    if ((set >> low & set >> high & 1) == 1) {
                        inside |= pairOf(low, high);
                    }
                }
            }
            return inside;
        }

        private void addClass(int set) {
            sets[setCount] = set;
            for (int input = 0; input < machine.inputs; input++) {
                wants[setCount * MOST_INPUTS + input] = machine.leadOf(set, input);
            }
            setCount++;
            widest = Math.max(widest, Integer.bitCount(set));
        }

        private void gatherGreatest() {
            greatestCount = 0;
            for (int i = 0; i < setCount; i++) {
                if (isGreatest(sets[i])) {
                    greatestSets[greatestCount] = sets[i];
                    greatestCount++;
                }
            }
        }

        private boolean isGreatest(int set) {
            for (int state = 0; state < machine.states; state++) {
                if ((set >> state & 1) == 0 && alike[set | 1 << state]) {
                    return false;
                }
            }
            return true;
        }

        /** The sets of one STATE each are a COVER, so that no more CLASSES than STATES are ever wanted. */
        void refreshFewest() {
            if (fewestSeen == machine.age) {
                return;
            }
            fewestSeen = machine.age;
            fewestCount = 0;
            for (int size = 0; size <= machine.states; size++) {
                if (choose(0, 0, size, 0)) {
                    fewestCount = size;
                    break;
                }
            }
            for (int i = 0; i < fewestCount; i++) {
                fewestSets[i] = sets[chosen[i]];
            }
        }

        /** The CLASSES stand by their bits, so that the first COVER that is found is the one that is wanted. */
        private boolean choose(int from, int depth, int size, int held) {
            int missing = (1 << machine.states) - 1 & ~held;
            int left = size - depth;
            if (left <= 0) {
                return missing == 0 && isClosed(size);
            }
            if (Integer.bitCount(missing) > left * widest) {
                return false;
            }
            for (int i = from; i <= setCount - left; i++) {
                chosen[depth] = i;
                if (choose(i + 1, depth + 1, size, held | sets[i])) {
                    return true;
                }
            }
            return false;
        }

        private boolean isClosed(int size) {
            for (int i = 0; i < size; i++) {
                for (int input = 0; input < machine.inputs; input++) {
                    int wanted = wants[chosen[i] * MOST_INPUTS + input];
                    if (wanted != 0 && !isInChosen(wanted, size)) {
                        return false;
                    }
                }
            }
            return true;
        }

        private boolean isInChosen(int wanted, int size) {
            for (int i = 0; i < size; i++) {
                if ((wanted & ~sets[chosen[i]]) == 0) {
                    return true;
                }
            }
            return false;
        }

        boolean hasFewest(int i) {
            return i >= 0 && i < fewestCount;
        }

        int smallTarget(int smallState, int input) {
            int led = hasFewest(smallState) ? machine.leadOf(fewestSets[smallState], input) : 0;
            return led == 0 ? OPEN : firstHolding(led);
        }

        private int firstHolding(int set) {
            for (int i = 0; i < fewestCount; i++) {
                if ((set & ~fewestSets[i]) == 0) {
                    return i;
                }
            }
            return NONE;
        }

        /** Any told ANSWER will do: STATES of one CLASS have none that are unlike. */
        int smallAnswer(int smallState, int input) {
            int answer = OPEN;
            for (int state = 0; state < machine.states && hasFewest(smallState); state++) {
                if ((fewestSets[smallState] >> state & 1) == 1) {
                    answer = Math.max(answer, machine.answerOf(state, input));
                }
            }
            return answer;
        }

        int homeOf(int state) {
            return firstHolding(1 << state);
        }

        /** To be in it is all: a STATE of a CLASS goes into what this leads to, and so into the CLASS that holds that. */
        int metBy(int state) {
            int classesMet = 0;
            for (int i = 0; i < fewestCount; i++) {
                classesMet |= (fewestSets[i] >> state & 1) << i;
            }
            return classesMet;
        }

        int metCount() {
            int all = 0;
            for (int state = 0; state < machine.states; state++) {
                all += Integer.bitCount(metBy(state));
            }
            return all;
        }
    }

    /** All PARTITIONS by their numbers, each with the pairs that are in one BLOCK of it. */
    private static final class Partitions {
        private static final int MOST_PARTITIONS = 203;
        private static final int[] TENS = {1, 10, 100, 1000, 10000, 100000};

        private final Machine machine;
        private final Pairs pairs;
        final int[] numbers = new int[MOST_PARTITIONS];
        private final int[] joins = new int[MOST_PARTITIONS];
        private final int[] blocks = new int[MOST_PARTITIONS];
        private int total;
        private int listedStates;
        /** Which of them GO ON. */
        final int[] going = new int[MOST_PARTITIONS];
        int goingCount;
        private int seen = NONE;
        int splitOne;
        int splitOther;
        int splitBlocks;
        private int splitSeen = NONE;

        Partitions(Machine machine, Pairs pairs) {
            this.machine = machine;
            this.pairs = pairs;
        }

        void refresh() {
            if (seen == machine.age) {
                return;
            }
            seen = machine.age;
            if (listedStates != machine.states) {
                listedStates = machine.states;
                total = 0;
                // A PARTITION has one BLOCK at least: of no STATES there is none.
                if (listedStates > 0) {
                    grow(0, 0, 0);
                }
            }
            goingCount = 0;
            for (int index = 0; index < total; index++) {
                if (stays(index)) {
                    going[goingCount] = index;
                    goingCount++;
                }
            }
        }

        /** A STATE comes into one of the BLOCKS there are, or into a new one: so all come by their numbers. */
        private void grow(int state, int number, int blockCount) {
            if (state >= listedStates) {
                if (total < MOST_PARTITIONS) {
                    numbers[total] = number;
                    blocks[total] = blockCount;
                    joins[total] = joinsOf(total);
                    total++;
                }
                return;
            }
            for (int block = 0; block <= blockCount; block++) {
                grow(state + 1, number * 10 + block, Math.max(blockCount, block + 1));
            }
        }

        private int joinsOf(int index) {
            int joined = 0;
            for (int low = 0; low < listedStates; low++) {
                for (int high = low + 1; high < listedStates; high++) {
                    if (blockOf(index, low) == blockOf(index, high)) {
                        joined |= pairOf(low, high);
                    }
                }
            }
            return joined;
        }

        int blockOf(int index, int state) {
            int place = listedStates - 1 - state;
            return place >= 0 && place < TENS.length ? numbers[index] / TENS[place] % 10 : NONE;
        }

        int indexOf(int number) {
            for (int index = 0; index < total; index++) {
                if (numbers[index] == number) {
                    return index;
                }
            }
            return NONE;
        }

        int goingIndexOf(int number) {
            int index = indexOf(number);
            return index != NONE && stays(index) ? index : NONE;
        }

        /** Of a BLOCK that leads into two BLOCKS some two STATES do, so that to look at pairs is enough. */
        boolean stays(int index) {
            return (pairs.followed(joins[index]) & ~joins[index]) == 0;
        }

        boolean hasBlock(int index, int block) {
            return block >= 0 && block < blocks[index];
        }

        int statesOf(int index, int block) {
            int inside = 0;
            for (int state = 0; state < listedStates; state++) {
                if (blockOf(index, state) == block) {
                    inside |= 1 << state;
                }
            }
            return inside;
        }

        int blockBehind(int index, int block, int input) {
            int led = machine.leadOf(statesOf(index, block), input);
            return led == 0 ? OPEN : blockOf(index, Integer.numberOfTrailingZeros(led));
        }

        int joined(int state, int other) {
            int pair = pairOf(state, other);
            int most = NONE;
            for (int i = 0; i < goingCount; i++) {
                int index = going[i];
                if ((pair & ~joins[index]) == 0 && (most == NONE || blocks[index] > blocks[most])) {
                    most = index;
                }
            }
            return most == NONE ? NONE : numbers[most];
        }

        int intoOf(int from) {
            int led = pairs.followed(joins[from]);
            int most = NONE;
            for (int index = 0; index < total; index++) {
                if ((led & ~joins[index]) == 0 && (most == NONE || blocks[index] > blocks[most])) {
                    most = index;
                }
            }
            return most == NONE ? NONE : numbers[most];
        }

        int tailOf(int head) {
            int least = head;
            int leastBlocks = MOST_STATES + 1;
            for (int index = 0; index < total; index++) {
                if ((joins[index] & joins[head]) == 0 && blocks[index] < leastBlocks) {
                    least = index;
                    leastBlocks = blocks[index];
                }
            }
            return least;
        }

        void refreshSplit() {
            if (splitSeen == machine.age) {
                return;
            }
            splitSeen = machine.age;
            splitOne = OPEN;
            splitOther = OPEN;
            splitBlocks = OPEN;
            for (int i = 0; i < goingCount; i++) {
                for (int k = i + 1; k < goingCount; k++) {
                    trySplit(going[i], going[k]);
                }
            }
        }

        private void trySplit(int one, int other) {
            int sum = blocks[one] + blocks[other];
            boolean coarse = blocks[one] < listedStates && blocks[other] < listedStates;
            if (coarse && (joins[one] & joins[other]) == 0 && (splitBlocks == OPEN || sum < splitBlocks)) {
                splitOne = numbers[one];
                splitOther = numbers[other];
                splitBlocks = sum;
            }
        }

        int leastBlocks() {
            int least = OPEN;
            for (int i = 0; i < goingCount; i++) {
                int many = blocks[going[i]];
                if (many > 1 && (least == OPEN || many < least)) {
                    least = many;
                }
            }
            return least;
        }
    }

    /** On which BITS of a code the next ones hang. */
    private static final class Hanging {
        /** Sets of BITS, of fewest first, then by their numbers. */
        private static final int[] BY_SIZE = {0, 1, 2, 4, 3, 5, 6, 7};

        private final Machine machine;
        private final Pairs pairs;
        /** Of each BIT the pairs whose codes are alike in it. */
        private final int[] alikeIn = new int[MOST_BITS];
        /** Of each set of BITS the pairs to which those are led whose codes are alike in all of it. */
        private final int[] ledFrom = new int[MOST_CODES];

        Hanging(Machine machine, Pairs pairs) {
            this.machine = machine;
            this.pairs = pairs;
        }

        void load(int[] codes) {
            int every = alikePairs(codes, 0);
            for (int bit = 0; bit < machine.bits(); bit++) {
                alikeIn[bit] = alikePairs(codes, 1 << bit);
            }
            for (int bits = 0; bits < 1 << machine.bits(); bits++) {
                int alike = every;
                for (int bit = 0; bit < machine.bits(); bit++) {
                    alike &= (bits >> bit & 1) == 1 ? alikeIn[bit] : every;
                }
                ledFrom[bits] = pairs.followed(alike);
            }
        }

        private int alikePairs(int[] codes, int bits) {
            int alike = 0;
            for (int low = 0; low < machine.states; low++) {
                for (int high = low + 1; high < machine.states; high++) {
                    if (((codes[low] ^ codes[high]) & bits) == 0) {
                        alike |= pairOf(low, high);
                    }
                }
            }
            return alike;
        }

        int leastSet(int bit) {
            for (int i = 0; i < BY_SIZE.length; i++) {
                int bits = BY_SIZE[i];
                if (bits < 1 << machine.bits() && (ledFrom[bits] & ~alikeIn[bit]) == 0) {
                    return bits;
                }
            }
            return OPEN;
        }

        int total() {
            int all = 0;
            for (int bit = 0; bit < machine.bits(); bit++) {
                int bits = leastSet(bit);
                if (bits == OPEN) {
                    return OPEN;
                }
                all += Integer.bitCount(bits);
            }
            return all;
        }
    }

    /** The fewest CUBES that hold some codes and none of others. */
    private static final class Cubes {
        private static final int MOST_CUBES = 27;
        private static final int[] CUBES_OF_BITS = {1, 3, 9, 27};
        /** The BITS of each code, eight places from one to the next, so that each has room for a set of codes. */
        private static final int[] SPREAD = {0, 1, 256, 257, 65536, 65537, 65792, 65793};

        private final Machine machine;
        /** Of each CUBE the codes that it holds (bits). */
        private final int[] holds = new int[MOST_CUBES];
        /** Of each set of codes the number whose digits of three are its bits. */
        private final int[] threes = new int[1 << MOST_CODES];
        /** How many CUBES it takes, one more, by codes to hold and codes not to hold; 0: not known yet. */
        private final byte[] known = new byte[6561];
        final int[] listed = new int[MOST_CODES];
        private int leading;
        private int wanting;
        private int on;
        private int off;

        Cubes(Machine machine) {
            this.machine = machine;
            for (int cubeNumber = 0; cubeNumber < MOST_CUBES; cubeNumber++) {
                for (int code = 0; code < MOST_CODES; code++) {
                    holds[cubeNumber] |= isIn(code, cubeNumber) ? 1 << code : 0;
                }
            }
            int power = 1;
            for (int code = 0; code < MOST_CODES; code++) {
                for (int set = 1 << code; set < 2 << code; set++) {
                    threes[set] = power + threes[set - (1 << code)];
                }
                power *= 3;
            }
        }

        private static boolean isIn(int code, int cubeNumber) {
            int digits = cubeNumber;
            for (int bit = 0; bit < MOST_BITS; bit++) {
                int digit = digits % 3;
                if (digit != 2 && digit != (code >> bit & 1)) {
                    return false;
                }
                digits /= 3;
            }
            return true;
        }

        /** By an INPUT, with the MOVES among the first STATES alone: the codes that lead, and to which codes. */
        private void look(int[] codes, int stateCount, int input) {
            leading = 0;
            wanting = 0;
            for (int state = 0; state < stateCount; state++) {
                int to = machine.targetOf(state, input);
                if (to >= 0 && to < stateCount) {
                    leading |= 1 << codes[state];
                    wanting |= SPREAD[codes[to] & 7] << codes[state];
                }
            }
        }

        /** Which of them the next BIT wants held (on) and which not (off). */
        private void aim(int bit) {
            on = wanting >> MOST_CODES * bit & 255;
            off = leading & ~on;
        }

        /**
         * With fewer than three BITS the codes above are free, and a CUBE may hold them or not: as many CUBES are
         * wanted then.
         */
        private int least(int rest, int depth) {
            if (rest == 0 || depth >= MOST_CODES) {
                return 0;
            }
            int at = threes[rest] + 2 * threes[off];
            if (at < known.length && known[at] != 0) {
                return known[at] - 1;
            }
            int code = Integer.numberOfTrailingZeros(rest);
            int fewest = MOST_CODES;
            for (int cubeNumber = 0; cubeNumber < MOST_CUBES; cubeNumber++) {
                int held = holds[cubeNumber];
                if ((held >> code & 1) == 1 && (held & off) == 0) {
                    fewest = Math.min(fewest, 1 + least(rest & ~held, depth + 1));
                }
            }
            if (at < known.length) {
                known[at] = (byte) (fewest + 1);
            }
            return fewest;
        }

        int list(int bit, int input) {
            look(machine.codes, machine.states, input);
            aim(bit);
            int size = least(on, 0);
            choose(0, 0, size, on);
            return size;
        }

        /** The CUBES are tried by their numbers, so that the first choice that is found is the one that is wanted. */
        private boolean choose(int from, int depth, int size, int rest) {
            if (depth >= size) {
                return rest == 0;
            }
            for (int cubeNumber = from; cubeNumber < CUBES_OF_BITS[machine.bits()]; cubeNumber++) {
                int held = holds[cubeNumber];
                if ((held & off) == 0 && least(rest & ~held, 0) < size - depth) {
                    listed[depth] = cubeNumber;
                    if (choose(cubeNumber + 1, depth + 1, size, rest & ~held)) {
                        return true;
                    }
                }
            }
            return false;
        }

        /** SUM by the MOVES among the first STATES; or, once it is not below the limit, what there is of it by then. */
        int total(int[] codes, int stateCount, int limit) {
            int all = 0;
            for (int input = 0; input < machine.inputs && all < limit; input++) {
                look(codes, stateCount, input);
                for (int bit = 0; bit < machine.bits() && all < limit; bit++) {
                    aim(bit);
                    all += least(on, 0);
                }
            }
            return all;
        }

        int nextCode(int code, int input) {
            int next = 0;
            for (int bit = 0; bit < machine.bits(); bit++) {
                int size = list(bit, input);
                for (int i = 0; i < size; i++) {
                    next |= (holds[listed[i]] >> code & 1) << bit;
                }
            }
            return next;
        }
    }

    /** The BEST codes by COST (0) and by SUM (1). */
    private static final class Best {
        private static final int BY_COST = 0;

        private final Machine machine;
        private final Hanging hanging;
        private final Cubes cubes;
        private final int[] trial = new int[MOST_STATES];
        final int[] codes = new int[2 * MOST_STATES];
        final int[] values = new int[2];
        private final int[] seen = {NONE, NONE};

        Best(Machine machine, Hanging hanging, Cubes cubes) {
            this.machine = machine;
            this.hanging = hanging;
            this.cubes = cubes;
        }

        void refresh(int by) {
            if (seen[by] != machine.age) {
                seen[by] = machine.age;
                values[by] = NO_LIMIT;
                assign(by, 0, 0);
            }
        }

        /** All codes are tried the least first, so that of alike ones the first one stays. */
        private void assign(int by, int state, int used) {
            if (state >= machine.states) {
                weigh(by);
                return;
            }
            // COST does not change if a BIT is turned over in all codes: STATE 0 has code 0 in the least ones.
            int top = by == BY_COST && state == 0 ? 1 : 1 << machine.bits();
            for (int code = 0; code < top; code++) {
                trial[state] = code;
                if ((used >> code & 1) == 0 && areBitsInOrder(state + 1) && canBeLess(by, state + 1)) {
                    assign(by, state + 1, used | 1 << code);
                }
            }
        }

        /** Neither COST nor SUM changes if BITS change places: the least codes have a 1 in the lower BIT first. */
        private boolean areBitsInOrder(int stateCount) {
            for (int bit = 1; bit < machine.bits(); bit++) {
                if (isFirstIn(bit, bit - 1, stateCount)) {
                    return false;
                }
            }
            return true;
        }

        private boolean isFirstIn(int bit, int lower, int stateCount) {
            for (int state = 0; state < stateCount; state++) {
                int one = trial[state] >> bit & 1;
                int other = trial[state] >> lower & 1;
                if (one != other) {
                    return one == 1;
                }
            }
            return false;
        }

        /** With more STATES SUM only grows: where the first ones make it too much, no codes of the others help. */
        private boolean canBeLess(int by, int stateCount) {
            return by == BY_COST || cubes.total(trial, stateCount, values[by]) < values[by];
        }

        private void weigh(int by) {
            int value;
            if (by == BY_COST) {
                hanging.load(trial);
                value = hanging.total();
            } else {
                value = cubes.total(trial, machine.states, values[by]);
            }
            if (value < values[by]) {
                values[by] = value;
                System.arraycopy(trial, 0, codes, by * MOST_STATES, MOST_STATES);
            }
        }
    }
}
