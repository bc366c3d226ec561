/** Each promise of the document by itself: ordinary calls, the edges that it names, wrong arguments. */
public final class PromiseTest {
    private static final int NONE = StateMill.NONE;
    private static final int OPEN = -2;
    private static final int FAR = Integer.MAX_VALUE;
    private static final int LOW = Integer.MIN_VALUE;

    /** Four STATES, whole: a and c, b and d answer alike; a goes to b, c to d by 0 and so on. */
    private static final String FOUR =
        "state a; state b; state c; state d; inputs 2;"
        + "move a 0 b 0; move a 1 c 0; move b 0 a 1; move b 1 d 0; move c 0 d 0; move c 1 a 0; move d 0 c 1; move d 1 b 0;";
    /** Each leads to the next one, the last one to itself; only the last one answers 1. */
    private static final String CHAIN =
        "state a; state b; state c; state d; state e; state f; inputs 1;"
        + "move a 0 b 0; move b 0 c 0; move c 0 d 0; move d 0 e 0; move e 0 f 0; move f 0 f 1;";
    /** b is alike enough with a and with c, which are apart. */
    private static final String BRIDGE =
        "state a; state b; state c; inputs 1; move a 0 b 0; move b 0 open open; move c 0 a 1;";

    private static int promise;
    private static int asked;
    private static int wrong;

    public static void main(String[] args) {
        newObject();
        feedAndBack();
        readTokens();
        readFaults();
        readRoom();
        readMeaning();
        readTakesThePlace();
        setByHand();
        codeByHand();
        undoes();
        moves();
        apartOnes();
        words();
        shownWords();
        classesOfStates();
        fewestOnes();
        smallMachine();
        metOnes();
        runs();
        partitions();
        togetherAndInto();
        splits();
        tailsAndParts();
        seriesOfParts();
        besideParts();
        partitionsOfNoStates();
        hangingBits();
        cubesOfBits();
        codedOnes();
        bestCodes();
        slots();
        counts();
        wildArguments();
        System.out.println(asked + " answers asked for by promise, " + wrong + " wrong");
        if (wrong > 0) {
            System.exit(1);
        }
    }

    private static void due(String call, long got, long want) {
        asked++;
        if (got != want) {
            wrong++;
            System.out.println("promise " + promise + ": " + call + " answered " + got + ", due is " + want);
        }
    }

    private static void due(String call, boolean got, boolean want) {
        due(call, got ? 1 : 0, want ? 1 : 0);
    }

    private static void put(StateMill mill, String text) {
        StringBuilder padded = new StringBuilder(text);
        while (padded.length() % 20 != 0) {
            padded.append(' ');
        }
        for (int at = 0; at < padded.length(); at += 20) {
            int[] five = new int[5];
            for (int k = 0; k < 20; k++) {
                five[k / 4] = five[k / 4] << 8 | padded.charAt(at + k) & 255;
            }
            mill.feed(five[0], five[1], five[2], five[3], five[4]);
        }
        mill.back(padded.length() - text.length());
    }

    private static StateMill mill(String text) {
        StateMill mill = new StateMill();
        put(mill, text);
        due("read of <" + text + ">", mill.read(), 0);
        return mill;
    }

    private static void fault(String text, int number, int place) {
        StateMill mill = mill("state z; move z 0 z 1; code z 3;");
        put(mill, text);
        due("read of <" + text + ">", mill.read(), number);
        due("place in <" + text + ">", mill.place(), place);
        due("the tape then", mill.count(8), 0);
        due("the states then", mill.count(0), number == 0 ? mill.count(0) : 1);
        due("the code then", number == 0 ? 3 : mill.count(7), 3);
    }

    private static void newObject() {
        promise = 1;
        StateMill mill = new StateMill();
        due("count(0)", mill.count(0), 0);
        due("count(1)", mill.count(1), 2);
        due("count(12)", mill.count(12), 1);
        due("place()", mill.place(), NONE);
        due("NONE", NONE, -1);
        due("hold(0)", mill.hold(0), true);
        due("restore(0)", mill.restore(0), true);
        due("restore(1)", mill.restore(1), false);
    }

    private static void feedAndBack() {
        promise = 2;
        StateMill mill = new StateMill();
        for (int k = 1; k <= 100; k++) {
            due("feed " + k, mill.feed(k, 0, -1, FAR, LOW), 20 * k);
        }
        due("one too many", mill.feed(0, 0, 0, 0, 0), NONE);
        due("count(8)", mill.count(8), 2000);
        promise = 3;
        due("back(0)", mill.back(0), 2000);
        due("back(-1)", mill.back(-1), NONE);
        due("back(LOW)", mill.back(LOW), NONE);
        due("back(2001)", mill.back(2001), NONE);
        due("back(FAR)", mill.back(FAR), NONE);
        due("back(19)", mill.back(19), 1981);
        promise = 2;
        due("no room for twenty", mill.feed(0, 0, 0, 0, 0), NONE);
        due("nothing came", mill.count(8), 1981);
        promise = 3;
        due("back(1)", mill.back(1), 1980);
        promise = 2;
        due("room for twenty", mill.feed(0, 0, 0, 0, 0), 2000);
        promise = 3;
        due("back(2000)", mill.back(2000), 0);
        due("back(1)", mill.back(1), NONE);
        promise = 2;
        mill.feed(0x73746174, 0x6520613B, 0x20202020, 0x20202020, 0x2020203F);
        due("the highest byte is first", mill.read(), 1);
        due("the lowest byte of e is last", mill.place(), 19);
    }

    private static void readTokens() {
        promise = 4;
        fault("", 0, NONE);
        fault(" \t\n\r", 0, NONE);
        fault("state abcdefgh;", 0, NONE);
        fault("state abcdefghi;", 1, 6);
        fault("statea;", 1, 0);
        fault("state a;move a0a1;", 0, NONE);
        fault("state a;move a 0 a0001;", 0, NONE);
        fault("inputs 0004;", 0, NONE);
        fault("inputs 00004;", 1, 7);
        fault("inputs4;", 0, NONE);
        fault("inputs 4 4;", 1, 9);
        fault("state a;;", 1, 8);
        fault("state A;", 1, 6);
        fault("state a_b;", 1, 7);
        fault("state " + (char) 225 + ";", 1, 6);
        fault("state a;" + (char) 0, 1, 8);
        fault("state a;" + (char) 11, 1, 8);
        fault("state state;", 1, 6);
        fault("state inputs;", 1, 6);
        fault("state move;", 1, 6);
        fault("state open;", 1, 6);
        fault("state code;", 1, 6);
        fault("state states;state opens;", 0, NONE);
        fault("state xtate;state nputs;state xove;state xpen;state xode;state statx;", 0, NONE);
        fault("xtate a;", 1, 0);
        fault("state xnputs;state movx;state opex;state codx;state inputx;state staxe;", 0, NONE);
        fault("open;", 1, 0);
        fault("1;", 1, 0);
        fault("a;", 1, 0);
        fault("-1", 1, 0);
    }

    private static void readFaults() {
        promise = 5;
        fault("state", 1, 5);
        fault("state ", 1, 6);
        fault("state a", 1, 7);
        fault("state a  \n", 1, 10);
        fault("state a;inputs a;", 1, 15);
        fault("state a;inputs ;", 1, 15);
        fault("state a;inputs open;", 1, 15);
        fault("state a;move open 0 a 0;", 1, 13);
        fault("state a;move a open a 0;", 1, 15);
        fault("state a;move a 0 0 0;", 1, 17);
        fault("state a;move a 0 a a;", 1, 19);
        fault("state a;move a 0 a;", 1, 18);
        fault("state a;move a 0 open open;", 0, NONE);
        fault("state a;move a 0 a 0 0;", 1, 21);
        fault("state a;code a;", 1, 14);
        fault("state a;code a open;", 1, 15);
        fault("state a;code 1 a;", 1, 13);
        fault("state a state b;", 1, 8);
        fault("state a;state a;?", 1, 16);
        StateMill mill = mill("");
        put(mill, "?");
        mill.read();
        due("place()", mill.place(), 0);
        due("an empty text", mill.read(), 0);
        due("place() of the latest", mill.place(), NONE);
    }

    private static void readRoom() {
        promise = 4;
        String six = "state a;state b;state c;state d;state e;state f;";
        fault(six, 0, NONE);
        fault(six + "state g;", 2, 48);
        fault(six + " state ?", 2, 49);
        fault(six + "state", 2, 48);
        fault(six + "? state g;", 1, 48);
        fault(six + "inputs 1;state a;", 2, 57);
        fault("state a;state a;state a;state a;state a;state a;state a;", 2, 48);
        fault("state a;state a;state a;state a;state a;state a;", 3, 14);
        StringBuilder text = new StringBuilder("state a;move a 0 a 0;");
        for (int k = 0; k < 97; k++) {
            text.append("code a 7;");
        }
        text.append("inputs 1;");
        fault(text.toString(), 0, NONE);
        int length = text.length();
        fault(text + "code a 1;", 2, length);
        fault(text + " inputs", 2, length + 1);
        fault(text + ";", 1, length);
        fault(text + "?", 1, length);
        fault(text + "abcdefghi", 1, length);
        fault(text + " \n", 0, NONE);
        String short399 = text.substring(0, length - 1);
        fault(short399, 1, length - 1);
        fault(short399 + " x", 1, length);
    }

    private static void readMeaning() {
        promise = 4;
        fault("state a;state a;", 3, 14);
        fault("move b 0 a 0;state a;state a;", 4, 5);
        fault("state a;state b;state c;state b;move z 0 a 0;", 3, 30);
        fault("state a;move b 0 a 0;", 4, 13);
        fault("state a;move a 0 b 0;", 4, 17);
        fault("state a;code b 0;", 4, 13);
        fault("state a;code b 9;", 4, 13);
        fault("state a;code aa 0;", 4, 13);
        fault("move a 0 b 0;code b 7;state b;state a;", 0, NONE);
        fault("inputs 0;", 5, 7);
        fault("inputs 5;", 5, 7);
        fault("inputs 1;inputs 9999;", 5, 16);
        fault("inputs 1;inputs 2;inputs 3;inputs 4;", 0, NONE);
        fault("state a;move a 2 a 0;", 5, 15);
        fault("state a;move a 2 a 0;inputs 3;", 0, NONE);
        fault("inputs 3;state a;move a 2 a 0;inputs 2;", 5, 24);
        fault("state a;move a 2 a 0;inputs 3;inputs 7;", 5, 37);
        fault("state a;move a 2 a 0;inputs 7;", 5, 15);
        fault("state a;move a 0 a 3;", 0, NONE);
        fault("state a;move a 0 a 4;", 5, 19);
        fault("state a;move a 0 open 4;", 5, 22);
        fault("state a;move a 9 b 9;", 5, 15);
        fault("state a;code a 7;", 0, NONE);
        fault("state a;code a 8;", 5, 15);
    }

    private static void readTakesThePlace() {
        promise = 4;
        StateMill mill = mill("state a;state b;inputs 3;inputs 1;inputs 2;code b 5;code b 4;"
            + "move a 1 b 3;move a 0 a 1;move a 1 a open;move b 0 open 2;");
        due("count(0)", mill.count(0), 2);
        due("count(1)", mill.count(1), 2);
        due("move(0,1,0)", mill.move(0, 1, 0), 0);
        due("move(0,1,1): the last line has all", mill.move(0, 1, 1), OPEN);
        due("move(1,0,0)", mill.move(1, 0, 0), OPEN);
        due("move(1,0,1)", mill.move(1, 0, 1), 2);
        due("move(1,1,0): told by none", mill.move(1, 1, 0), OPEN);
        due("codes: the last one told, its number", mill.count(7), 4 * 8);
        StateMill ahead = mill("move bc 0 ac 2;code ac 6;state ac;state bc;");
        due("a first line of moves", ahead.move(1, 0, 0), 0);
        due("its answer", ahead.move(1, 0, 1), 2);
        due("and of codes", ahead.count(7), 6 + 8);
        due("a first line of codes", mill("code b 3;state a;state b;").count(7), 24);
        mill.hold(1);
        mill.set(0, 0, 1, 1);
        put(mill, "state x; state x;");
        due("a fault", mill.read(), 3);
        due("changes nothing", mill.move(0, 0, 0), 1);
        due("what can be undone stays", mill.count(9), 1);
        due("slots stay", mill.count(10), 1);
        put(mill, "state x;");
        due("no fault", mill.read(), 0);
        due("states", mill.count(0), 1);
        due("inputs without a line", mill.count(1), 2);
        due("nothing can be undone", mill.count(9), 0);
        due("undo()", mill.undo(), false);
        due("slots hold nothing", mill.count(10), 0);
        due("restore(1)", mill.restore(1), false);
        due("code of x", mill.count(7), 0);
    }

    private static void setByHand() {
        promise = 6;
        StateMill mill = mill("state a; state b; inputs 3;");
        due("set(0,0,1,3)", mill.set(0, 0, 1, 3), true);
        due("set again", mill.set(0, 0, 1, 3), false);
        due("only the answer", mill.set(0, 0, 1, OPEN), true);
        due("only whereto", mill.set(0, 0, OPEN, OPEN), true);
        due("both open already", mill.set(1, 2, OPEN, OPEN), false);
        due("count(9)", mill.count(9), 3);
        int[][] bad = {
            {-1, 0, 0, 0}, {2, 0, 0, 0}, {0, -1, 0, 0}, {0, 3, 0, 0}, {0, 0, -1, 0}, {0, 0, 2, 0}, {0, 0, -3, 0},
            {0, 0, 0, -1}, {0, 0, 0, 4}, {0, 0, 0, -3}, {FAR, FAR, FAR, FAR}, {LOW, LOW, LOW, LOW}
        };
        for (int[] b : bad) {
            due("set of none", mill.set(b[0], b[1], b[2], b[3]), false);
        }
        due("nothing happened", mill.count(9), 3);
        due("nothing is told", mill.count(2) + mill.count(3), 6);
    }

    private static void codeByHand() {
        promise = 7;
        StateMill mill = mill("state a; state b;");
        due("code(1,7)", mill.code(1, 7), true);
        due("count(7)", mill.count(7), 56);
        due("code(1,7) again", mill.code(1, 7), false);
        due("code(0,0): its number already", mill.code(0, 0), false);
        due("code(1,8)", mill.code(1, 8), false);
        due("code(1,-1)", mill.code(1, -1), false);
        due("code(2,0)", mill.code(2, 0), false);
        due("code(-1,0)", mill.code(-1, 0), false);
        due("count(9)", mill.count(9), 1);
    }

    private static void undoes() {
        promise = 8;
        StateMill mill = mill("state a; move a 0 open 2;");
        due("nothing", mill.undo(), false);
        mill.set(0, 0, 0, 1);
        mill.code(0, 5);
        mill.set(0, 1, 0, OPEN);
        due("undo", mill.undo(), true);
        due("the second move", mill.move(0, 1, 0), OPEN);
        due("the code stays", mill.count(7), 5);
        due("undo", mill.undo(), true);
        due("the code", mill.count(7), 0);
        due("undo", mill.undo(), true);
        due("whereto", mill.move(0, 0, 0), OPEN);
        due("the answer", mill.move(0, 0, 1), 2);
        due("undo", mill.undo(), false);
        for (int k = 0; k < 47; k++) {
            mill.code(0, k % 7 + 1);
        }
        due("count(9)", mill.count(9), 40);
        for (int k = 0; k < 40; k++) {
            due("undo", mill.undo(), true);
            due("code then", mill.count(7), (45 - k) % 7 + 1);
        }
        due("a 41st", mill.undo(), false);
        due("undone by hand is not done by hand", mill.count(9), 0);
    }

    private static void moves() {
        promise = 9;
        StateMill mill = mill(FOUR);
        due("move(0,1,0)", mill.move(0, 1, 0), 2);
        due("move(3,0,1)", mill.move(3, 0, 1), 1);
        due("what 2", mill.move(0, 0, 2), NONE);
        due("what -1", mill.move(0, 0, -1), NONE);
        due("input 2", mill.move(0, 2, 0), NONE);
        due("input -1", mill.move(0, -1, 0), NONE);
        due("state 4", mill.move(4, 0, 0), NONE);
        due("state -1", mill.move(-1, 0, 0), NONE);
    }

    private static void apartOnes() {
        promise = 10;
        StateMill mill = mill(CHAIN);
        for (int s = 0; s < 6; s++) {
            for (int t = 0; t < 6; t++) {
                due("apart", mill.apart(s, t, 0), s == t ? 0 : 1);
                due("round", mill.apart(s, t, 1), s == t ? OPEN : 5 - Math.max(s, t));
            }
        }
        due("what 2", mill.apart(0, 1, 2), NONE);
        due("what -1", mill.apart(0, 1, -1), NONE);
        due("state 6", mill.apart(6, 0, 0), NONE);
        due("other 6", mill.apart(0, 6, 0), NONE);
        due("state -1", mill.apart(-1, 0, 0), NONE);
        StateMill open = mill("state a;state b;inputs 1;move a 0 a 0;move b 0 open 0;");
        due("an open move tells nothing", open.apart(0, 1, 0), 0);
        due("no round", open.apart(0, 1, 1), OPEN);
        open.set(1, 0, OPEN, 1);
        due("an answer of an open move does", open.apart(1, 0, 1), 0);
        open.set(1, 0, OPEN, OPEN);
        due("an open answer does not", open.apart(1, 0, 0), 0);
    }

    private static void words() {
        promise = 11;
        StateMill chain = mill(CHAIN);
        due("length", chain.word(0, 1, NONE), 5);
        due("last", chain.word(0, 1, 4), 0);
        due("no such i", chain.word(0, 1, 5), NONE);
        due("no such i", chain.word(0, 1, -3), NONE);
        StateMill mill = mill("state a;state b;state c;state d;inputs 3;"
            + "move a 2 c open;move b 2 d open;move a 1 c open;move b 1 d open;move c 2 open 1;move d 2 open 2;");
        due("length", mill.word(0, 1, NONE), 2);
        due("the lowest that leads on", mill.word(0, 1, 0), 1);
        due("then the one that tells", mill.word(1, 0, 1), 2);
        due("none", mill.word(0, 2, NONE), OPEN);
        due("none, whatever i is", mill.word(0, 0, 99), OPEN);
        due("no such state", mill.word(4, 0, NONE), NONE);
        due("no such other", mill.word(0, -1, 0), NONE);
    }

    private static void shownWords() {
        promise = 12;
        StateMill chain = mill(CHAIN);
        due("length", chain.shown(NONE), 5);
        due("last", chain.shown(4), 0);
        due("no such i", chain.shown(5), NONE);
        due("no such i", chain.shown(-2), NONE);
        StateMill alike = mill("state a;state b;");
        due("none apart", alike.shown(NONE), 0);
        due("none apart", alike.shown(0), NONE);
        StateMill two = mill("state a;state b;state c;inputs 4;"
            + "move a 3 a 0;move b 3 b 1;move c 3 c open;move a 1 a 2;move c 1 c 3;move b 1 b open;");
        due("both tests, the lower first", two.shown(NONE), 2);
        due("first", two.shown(0), 1);
        due("second", two.shown(1), 3);
        StateMill never = mill("state a;state b;state c;inputs 2;"
            + "move a 0 open 0;move b 0 open 1;move c 0 open open;move a 1 open 0;move c 1 open 1;move b 1 open open;");
        due("each test stops the other", never.shown(NONE), OPEN);
        due("whatever i is", never.shown(-9), OPEN);
        due("whatever i is", never.shown(0), OPEN);
    }

    private static void classesOfStates() {
        StateMill mill = mill(BRIDGE);
        promise = 13;
        due("classes", mill.classes(), 5);
        due("of none", new StateMill().classes(), 0);
        due("of a chain", mill(CHAIN).classes(), 6);
        promise = 14;
        due("many", mill.greatest(NONE), 2);
        due("0", mill.greatest(0), 3);
        due("1", mill.greatest(1), 6);
        due("2", mill.greatest(2), NONE);
        due("-2", mill.greatest(-2), NONE);
        promise = 16;
        due("a and b", mill.isClass(3), 1);
        due("a and c", mill.isClass(5), 0);
        due("all", mill.isClass(7), 0);
        due("one", mill.isClass(4), 1);
        due("none", mill.isClass(0), NONE);
        due("too many", mill.isClass(8), NONE);
        due("below", mill.isClass(-1), NONE);
        promise = 17;
        due("all", mill.leads(7, 0), 3);
        due("open", mill.leads(2, 0), 0);
        due("none", mill.leads(0, 0), 0);
        due("no such set", mill.leads(8, 0), NONE);
        due("no such set", mill.leads(-1, 0), NONE);
        due("no such input", mill.leads(1, 1), NONE);
        due("no such input", mill.leads(1, -1), NONE);
    }

    private static void fewestOnes() {
        promise = 15;
        StateMill bridge = mill(BRIDGE);
        due("many", bridge.fewest(NONE), 2);
        due("a alone, which is less than a with b", bridge.fewest(0), 1);
        due("b with c, which leads to a", bridge.fewest(1), 6);
        due("no such", bridge.fewest(2), NONE);
        due("no such", bridge.fewest(-2), NONE);
        due("of none", new StateMill().fewest(NONE), 0);
        StateMill open = mill("state a;state b;state c;");
        due("all in one", open.fewest(NONE), 1);
        due("all in one", open.fewest(0), 7);
        // a with b leads to c with d, c with d to a with d, which are apart by answers: so c and d, a and b are, too.
        StateMill led = mill("state a;state b;state c;state d;inputs 1;"
            + "move a 0 c open;move b 0 d open;move c 0 a open;move d 0 d 1;");
        due("all are alike enough", led.classes(), 15);
        due("many", led.fewest(NONE), 1);
        led.set(0, 0, 2, 0);
        due("a and d are apart", led.isClass(9), 0);
        due("c and d by that", led.isClass(12), 0);
        due("a and b by that", led.isClass(3), 0);
        due("many then", led.fewest(NONE), 2);
        due("first then", led.fewest(0), 5);
        due("second then", led.fewest(1), 10);
        // Both b with c would do, but what it leads to would have to be in one.
        StateMill closed = mill("state a;state b;state c;inputs 2;"
            + "move a 0 a 0;move b 0 a open;move c 0 c 1;move b 1 a open;move c 1 c open;");
        due("b and c would lead to a and c", closed.apart(1, 2, 1), 1);
        due("many", closed.fewest(NONE), 2);
        due("first", closed.fewest(0), 3);
        due("second", closed.fewest(1), 4);
    }

    private static void smallMachine() {
        StateMill mill = mill(FOUR);
        promise = 18;
        due("states", mill.fewest(NONE), 2);
        due("first set", mill.fewest(0), 5);
        due("second set", mill.fewest(1), 10);
        due("small(0,0,0)", mill.small(0, 0, 0), 1);
        due("small(0,0,1)", mill.small(0, 0, 1), 0);
        due("small(0,1,0)", mill.small(0, 1, 0), 0);
        due("small(1,0,0)", mill.small(1, 0, 0), 0);
        due("small(1,0,1)", mill.small(1, 0, 1), 1);
        due("no such state", mill.small(2, 0, 0), NONE);
        due("no such state", mill.small(-1, 0, 0), NONE);
        due("no such input", mill.small(0, 2, 0), NONE);
        due("no such what", mill.small(0, 0, 2), NONE);
        StateMill bridge = mill(BRIDGE);
        due("b lies in the second", bridge.small(0, 0, 0), 1);
        due("a lies in the first", bridge.small(1, 0, 0), 0);
        due("c tells the answer", bridge.small(1, 0, 1), 1);
        bridge.set(0, 0, OPEN, OPEN);
        bridge.set(2, 0, OPEN, OPEN);
        due("open", bridge.small(0, 0, 0), OPEN);
        due("open", bridge.small(0, 0, 1), OPEN);
        promise = 19;
        for (int s = 0; s < 4; s++) {
            due("home", mill.home(s), s % 2);
        }
        due("home(4)", mill.home(4), NONE);
        due("home(-1)", mill.home(-1), NONE);
    }

    private static void metOnes() {
        promise = 20;
        StateMill two = mill("state a;state b;state c;state d;inputs 4;"
            + "move a 0 a 0;move b 0 open open;move c 0 c 1;move d 0 d 2;"
            + "move a 1 a open;move b 1 b open;move c 1 open open;move a 2 open open;move b 2 b open;move c 2 c open;");
        int all = 0;
        for (int s = 0; s < 4; s++) {
            int inside = 0;
            for (int c = 0; c < two.fewest(NONE); c++) {
                inside |= (two.fewest(c) >> s & 1) << c;
            }
            due("met(" + s + ")", two.met(s), inside);
            all += Integer.bitCount(inside);
        }
        due("count(13)", two.count(13), all);
        StateMill over = overlapping();
        due("fewest", over.fewest(NONE), 2);
        due("first", over.fewest(0), 3);
        due("second", over.fewest(1), 6);
        due("met(0)", over.met(0), 1);
        due("met(1)", over.met(1), 3);
        due("met(2)", over.met(2), 2);
        due("count(13)", over.count(13), 4);
        due("home(1)", over.home(1), 0);
        due("met(3)", over.met(3), NONE);
        due("met(-1)", over.met(-1), NONE);
        due("of none", new StateMill().count(13), 0);
        due("met of a bridge", mill(BRIDGE).met(1), 2);
    }

    /** a with b is led to b with c, and the other way: both have to be there. */
    private static StateMill overlapping() {
        return mill("state a;state b;state c;inputs 4;"
            + "move a 0 a 0;move c 0 c 1;"
            + "move a 1 b open;move b 1 c open;move c 1 open open;"
            + "move b 2 a open;move c 2 b open;");
    }

    private static void runs() {
        promise = 21;
        StateMill mill = mill(FOUR);
        int word = 1 * 16 + 0 * 4 + 1;
        due("gone", mill.run(0, word, 3, 0), 3);
        due("a by 1 to c, by 0 to d, by 1 to b", mill.run(0, word, 3, 1), 1);
        due("the small one's", mill.run(0, word, 3, 2), 1);
        due("alike", mill.run(0, word, 3, 3), 3);
        due("told", mill.run(0, word, 3, 4), 3);
        due("no input", mill.run(2, 0, 0, 1), 2);
        due("no input", mill.run(3, 0, 0, 2), 1);
        due("no input", mill.run(3, 0, 0, 0), 0);
        due("more digits", mill.run(0, 1, 0, 0), NONE);
        due("more digits", mill.run(0, 16, 2, 0), NONE);
        due("no such input", mill.run(0, 2, 1, 0), NONE);
        due("no such input ahead", mill.run(0, 8, 2, 0), NONE);
        due("below 0", mill.run(0, -1, 8, 0), NONE);
        due("n 8", mill.run(0, 0, 8, 0), 8);
        due("n 9", mill.run(0, 0, 9, 0), NONE);
        due("n -1", mill.run(0, 0, -1, 0), NONE);
        due("65536 has 9 digits", mill.run(0, 65536, 8, 0), NONE);
        due("no such state", mill.run(4, 0, 0, 0), NONE);
        due("no such what", mill.run(0, 0, 0, 5), NONE);
        due("no such what", mill.run(0, 0, 0, -1), NONE);
        StateMill half = mill("state a;state b;inputs 4;move a 3 b 2;move b 3 open 1;move b 0 a 1;");
        due("its digits may be inputs up to 3", half.run(0, 65535, 8, 0), 1);
        due("it ends in b", half.run(0, 65535, 8, 1), 1);
        due("the answer of the last one is told", half.run(0, 65535, 8, 4), 2);
        due("and alike", half.run(0, 65535, 8, 3), 2);
        StateMill quiet = mill("state a;state b;inputs 1;move a 0 b open;move b 0 a 0;");
        due("the open answer is not told", quiet.run(0, 0, 2, 4), 1);
        due("nor alike", quiet.run(0, 0, 2, 3), 1);
    }

    private static void partitions() {
        promise = 22;
        StateMill chain = mill(CHAIN);
        due("0", chain.goesOn(0), 1);
        due("12345", chain.goesOn(12345), 1);
        due("all but the last: it leads to the last", chain.goesOn(1), 0);
        due("the last ones", chain.goesOn(12344), 1);
        due("block 2 ahead of 1", chain.goesOn(12435), NONE);
        due("a first block 1", chain.goesOn(100000), NONE);
        due("7 digits", chain.goesOn(1000000), NONE);
        due("no such number", chain.goesOn(2), NONE);
        due("below", chain.goesOn(-1), NONE);
        due("of none", new StateMill().goesOn(0), NONE);
        StateMill bridge = mill(BRIDGE);
        due("open moves do not matter", bridge.goesOn(11), 1);
        due("no such number of three states", bridge.goesOn(123), NONE);
        due("no such number of three states", bridge.goesOn(100), NONE);
        promise = 24;
        due("many", chain.partition(NONE), 6);
        int[] all = {0, 11111, 12222, 12333, 12344, 12345};
        for (int i = 0; i < 6; i++) {
            due("partition(" + i + ")", chain.partition(i), all[i]);
        }
        due("no such i", chain.partition(6), NONE);
        due("no such i", chain.partition(-2), NONE);
        due("of none", new StateMill().partition(NONE), 0);
        due("all of 5", mill("state a;state b;state c;state d;state e;").partition(NONE), 52);
        due("one of 5", mill("state a;state b;state c;state d;state e;").goesOn(1022), 1);
    }

    private static void togetherAndInto() {
        promise = 23;
        StateMill chain = mill(CHAIN);
        due("a and b", chain.together(0, 1), 0);
        due("c and e", chain.together(4, 2), 12222);
        due("one", chain.together(3, 3), 12345);
        due("no such", chain.together(6, 0), NONE);
        due("no such", chain.together(0, -1), NONE);
        StateMill four = mill(FOUR);
        due("a and c", four.together(0, 2), 101);
        due("a and b", four.together(0, 1), 11);
        due("a and d", four.together(0, 3), 110);
        promise = 25;
        due("of 0", chain.into(0), 11111);
        due("of the finest", chain.into(12345), 12345);
        due("of 1", chain.into(1), 11111);
        due("of a with b", chain.into(1234), 11234);
        due("of one that does not go on", chain.into(11), 11112);
        due("no such", chain.into(12346), NONE);
        due("no such", chain.into(-1), NONE);
        due("of none", new StateMill().into(0), NONE);
    }

    private static void splits() {
        promise = 26;
        StateMill four = mill(FOUR);
        due("one", four.split(0), 11);
        due("other", four.split(1), 101);
        due("blocks", four.split(2), 4);
        due("no such what", four.split(3), NONE);
        due("no such what", four.split(-1), NONE);
        StateMill chain = mill(CHAIN);
        due("none", chain.split(0), OPEN);
        due("none", chain.split(1), OPEN);
        due("none", chain.split(2), OPEN);
        due("of one state", mill("state a;").split(2), OPEN);
        due("two: 0 is too coarse, 1 has as many", mill("state a;state b;").split(0), OPEN);
        StateMill open = mill("state a;state b;state c;state d;state e;state f;");
        due("one", open.split(0), 111);
        due("other", open.split(1), 12012);
        due("blocks", open.split(2), 5);
    }

    private static void tailsAndParts() {
        promise = 27;
        StateMill four = mill(FOUR);
        due("of 11", four.tail(11), 101);
        due("of 101", four.tail(101), 11);
        due("of 0", four.tail(0), 123);
        due("of 123", four.tail(123), 0);
        due("does not go on", four.tail(1), NONE);
        due("no such", four.tail(9), NONE);
        StateMill chain = mill(CHAIN);
        due("it need not go on itself", chain.tail(12344), 1);
        due("nor here", chain.tail(11111), 1234);
        promise = 28;
        due("by 0", four.part(11, 0, 0), 0);
        due("by 1", four.part(11, 0, 1), 1);
        due("by 1", four.part(11, 1, 1), 0);
        due("by 0", four.part(101, 1, 0), 0);
        due("no such block", four.part(11, 2, 0), NONE);
        due("no such block", four.part(11, -1, 0), NONE);
        due("no such input", four.part(11, 0, 2), NONE);
        due("does not go on", four.part(1, 0, 0), NONE);
        due("no such partition", four.part(-5, 0, 0), NONE);
        due("open", mill(BRIDGE).part(12, 1, 0), OPEN);
        due("one of it is told", mill(BRIDGE).part(11, 1, 0), 0);
    }

    private static void seriesOfParts() {
        promise = 29;
        StateMill four = mill(FOUR);
        // The head has a b | c d, its tail a c | b d.
        due("head by 1", four.series(11, 0, 1, 1, 0), 1);
        due("b by 1 to d", four.series(11, 0, 1, 1, 1), 1);
        due("b by 0 to a", four.series(11, 0, 1, 0, 1), 0);
        due("no such head", four.series(11, 2, 0, 0, 0), NONE);
        due("no such tail", four.series(11, 0, 2, 0, 0), NONE);
        due("no such tail", four.series(11, 0, -1, 0, 1), NONE);
        due("no such input", four.series(11, 0, 0, 2, 0), NONE);
        due("no such what", four.series(11, 0, 0, 0, 2), NONE);
        due("does not go on", four.series(1, 0, 0, 0, 0), NONE);
        due("no such partition", four.series(4, 0, 0, 0, 0), NONE);
        StateMill bridge = mill(BRIDGE);
        due("tail of 11", bridge.tail(11), 1);
        due("none in both", bridge.series(11, 0, 1, 0, 1), OPEN);
        due("the head goes all the same", bridge.series(11, 0, 1, 0, 0), 1);
        due("its move is open", bridge.series(11, 1, 0, 0, 1), OPEN);
        due("c leads to a", bridge.series(11, 1, 1, 0, 1), 0);
    }

    private static void besideParts() {
        promise = 30;
        StateMill four = mill(FOUR);
        due("both tell all", four.beside(11, 101, 0, 1 * 4 + 0, 2), 8);
        due("no input", four.beside(11, 101, 2, 0, 0), 4);
        due("one that is not split", four.beside(0, 11, 0, 0, 1), 3);
        due("does not go on", four.beside(1, 11, 0, 0, 1), NONE);
        due("does not go on", four.beside(11, 1, 0, 0, 1), NONE);
        due("no such", four.beside(7, 11, 0, 0, 1), NONE);
        due("no such state", four.beside(11, 11, 4, 0, 1), NONE);
        due("no such word", four.beside(11, 11, 0, 2, 1), NONE);
        due("no such n", four.beside(11, 11, 0, 0, 9), NONE);
        StateMill bridge = mill(BRIDGE);
        due("both stop where one is open", bridge.beside(12, 0, 2, 0, 8), 2);
        due("so they do", bridge.beside(12, 11, 2, 0, 2), 2);
    }

    /** A PARTITION has one BLOCK at least: where there are no STATES, there is none, whatever was read before. */
    private static void partitionsOfNoStates() {
        for (String text : new String[] {"", "   ", "inputs 3;"}) {
            for (String ahead : new String[] {FOUR, CHAIN, BRIDGE, "state a;", ""}) {
                StateMill mill = mill(ahead);
                askAll(mill, 0, 0, 0);
                put(mill, text);
                due("read of <" + text + ">", mill.read(), 0);
                noPartition(mill);
                put(mill, "state a;");
                due("read of one state", mill.read(), 0);
                due("one partition of one state", mill.partition(NONE), 1);
                due("it goes on", mill.goesOn(0), 1);
                put(mill, text);
                due("read of <" + text + "> again", mill.read(), 0);
                noPartition(mill);
            }
        }
        noPartition(new StateMill());
    }

    private static void noPartition(StateMill mill) {
        for (int number : new int[] {0, 1, 11, 101, 12345, NONE, OPEN, LOW, FAR}) {
            promise = 22;
            due("goesOn", mill.goesOn(number), NONE);
            promise = 25;
            due("into", mill.into(number), NONE);
            promise = 27;
            due("tail", mill.tail(number), NONE);
            promise = 28;
            due("part", mill.part(number, 0, 0), NONE);
            promise = 29;
            due("series 0", mill.series(number, 0, 0, 0, 0), NONE);
            due("series 1", mill.series(number, 0, 0, 0, 1), NONE);
            promise = 30;
            due("beside", mill.beside(number, number, 0, 0, 0), NONE);
        }
        promise = 23;
        due("together", mill.together(0, 0), NONE);
        promise = 24;
        due("how many", mill.partition(NONE), 0);
        due("the 0th", mill.partition(0), NONE);
        promise = 26;
        for (int what = 0; what < 3; what++) {
            due("split", mill.split(what), OPEN);
        }
        promise = 39;
        due("count(14)", mill.count(14), OPEN);
    }

    private static void hangingBits() {
        StateMill four = mill(FOUR);
        promise = 31;
        due("bit 0: turned by 0, stays by 1", four.hangs(0, 1), 1);
        due("bit 1", four.hangs(1, 1), 2);
        due("one each", four.hangs(1, 0), 1);
        due("no such bit", four.hangs(2, 0), NONE);
        due("no such bit", four.hangs(-1, 0), NONE);
        due("no such what", four.hangs(0, 2), NONE);
        due("of one", mill("state a;").hangs(0, 0), NONE);
        due("on none", mill("state a;state b;move a 0 a 0;move b 0 a 0;").hangs(0, 0), 0);
        promise = 32;
        due("cost", four.cost(), 2);
        four.code(1, 3);
        four.code(3, 1);
        due("all that turns over hangs on itself alone", four.cost(), 2);
        four.code(1, 4);
        promise = 31;
        due("a and b are alike in both bits and lead to unlike", four.hangs(0, 1), OPEN);
        due("no such what, all the same", four.hangs(0, 7), NONE);
        promise = 32;
        due("cost", four.cost(), OPEN);
        due("of none", new StateMill().cost(), 0);
        StateMill three = mill("state a;state b;state c;inputs 1;move a 0 b 0;move b 0 c 0;move c 0 a 0;");
        // Next codes: 0 to 1, 1 to 2, 2 to 0.
        due("bit 0 on both", three.hangs(0, 1), 3);
        due("bit 1 on bit 0", three.hangs(1, 1), 1);
        due("cost", three.cost(), 3);
    }

    private static void cubesOfBits() {
        StateMill four = mill(FOUR);
        promise = 33;
        due("bit 0 by 0: 1 where it was 0", four.cube(0, 0, NONE), 1);
        due("6 is 20 of three", four.cube(0, 0, 0), 6);
        due("bit 0 by 1: as it was", four.cube(0, 1, 0), 7);
        due("bit 1 by 0: as it was", four.cube(1, 0, 0), 5);
        due("bit 1 by 1: turned", four.cube(1, 1, 0), 2);
        due("no such i", four.cube(1, 1, 1), NONE);
        due("no such i", four.cube(1, 1, -2), NONE);
        due("no such bit", four.cube(2, 0, 0), NONE);
        due("no such bit", four.cube(-1, 0, 0), NONE);
        due("no such input", four.cube(0, 2, 0), NONE);
        promise = 34;
        due("sum", four.sum(), 4);
        four.code(0, 1);
        due("not proper: two alike", four.sum(), OPEN);
        promise = 33;
        due("not proper", four.cube(0, 0, 77), OPEN);
        due("no such bit ahead of that", four.cube(2, 0, 0), NONE);
        four.code(0, 4);
        due("not proper: above", four.cube(0, 0, NONE), OPEN);
        StateMill odd = mill("state a;state b;state c;state d;inputs 1;"
            + "move a 0 b 0;move b 0 c 0;move c 0 b 0;move d 0 a 0;");
        // Bit 0 is wanted from 0 and 2, bit 1 from 1, and nothing from 3.
        due("bit 0", odd.cube(0, 0, 0), 6);
        due("bit 1", odd.cube(1, 0, 0), 1);
        StateMill cross = mill("state a;state b;state c;state d;inputs 1;"
            + "move a 0 b 0;move b 0 a 0;move c 0 a 0;move d 0 b 0;");
        due("0 and 3 want two cubes", cross.cube(0, 0, NONE), 2);
        due("first", cross.cube(0, 0, 0), 0);
        due("second", cross.cube(0, 0, 1), 4);
        due("none", cross.cube(1, 0, NONE), 0);
        due("none", cross.cube(1, 0, 0), NONE);
        promise = 34;
        due("sum", cross.sum(), 2);
        due("of none", new StateMill().sum(), 0);
        StateMill free = mill("state a;state b;state c;state d;state e;inputs 1;move e 0 b open;");
        promise = 33;
        due("the least number that holds 4", free.cube(0, 0, 0), 9);
        due("of only one", free.cube(0, 0, NONE), 1);
    }

    private static void codedOnes() {
        promise = 35;
        StateMill four = mill(FOUR);
        for (int code = 0; code < 4; code++) {
            due("by 0", four.coded(code, 0), code ^ 1);
            due("by 1", four.coded(code, 1), code ^ 2);
        }
        due("no such code", four.coded(4, 0), NONE);
        due("no such code", four.coded(-1, 0), NONE);
        due("no such input", four.coded(0, 2), NONE);
        four.code(0, 1);
        due("not proper", four.coded(0, 0), OPEN);
        due("no such code ahead of that", four.coded(4, 0), NONE);
        due("no bits", mill("state a;").coded(0, 0), 0);
        due("no bits", mill("state a;").coded(1, 0), NONE);
        StateMill three = mill("state a;state b;state c;inputs 1;move a 0 b 0;move b 0 c 0;move c 0 a 0;");
        due("a code of no state", three.coded(3, 0), 0);
    }

    private static void bestCodes() {
        promise = 36;
        StateMill four = mill(FOUR);
        due("cost", four.best(0, NONE), 2);
        due("sum", four.best(1, NONE), 4);
        for (int s = 0; s < 4; s++) {
            due("least ones", four.best(0, s), s);
        }
        four.code(0, 7);
        due("whatever the codes are", four.best(0, NONE), 2);
        due("no such state", four.best(0, 4), NONE);
        due("no such state", four.best(0, -2), NONE);
        due("no such by", four.best(2, NONE), NONE);
        due("no such by", four.best(-1, 0), NONE);
        StateMill one = mill("state a;state b;inputs 1;move a 0 b 0;move b 0 b 0;");
        due("next is always b", one.best(1, NONE), 0);
        due("so b has code 0", one.best(1, 1), 0);
        due("and a 1", one.best(1, 0), 1);
        due("by cost it does not matter", one.best(0, 0), 0);
        due("of none", new StateMill().best(1, NONE), 0);
        due("of none", new StateMill().best(1, 0), NONE);
        due("of one", mill("state a;").best(1, 0), 0);
    }

    private static void slots() {
        StateMill mill = mill("state a;state b;move a 0 b 1;code b 6;");
        promise = 37;
        due("hold(-1)", mill.hold(-1), false);
        due("hold(3)", mill.hold(3), false);
        due("hold(2)", mill.hold(2), true);
        due("count(10)", mill.count(10), 1);
        mill.set(0, 0, 0, 0);
        mill.code(1, 1);
        due("hold(0)", mill.hold(0), true);
        due("what can be undone stays", mill.count(9), 2);
        promise = 38;
        due("restore(1): it holds nothing", mill.restore(1), false);
        due("restore(3)", mill.restore(3), false);
        due("restore(-1)", mill.restore(-1), false);
        due("nothing happened", mill.count(9), 2);
        due("restore(2)", mill.restore(2), true);
        due("whereto", mill.move(0, 0, 0), 1);
        due("answer", mill.move(0, 0, 1), 1);
        due("codes", mill.count(7), 48);
        due("nothing can be undone", mill.undo(), false);
        mill.set(1, 1, 1, 1);
        due("it stays there", mill.restore(2), true);
        due("as held", mill.move(1, 1, 0), OPEN);
        due("the other one", mill.restore(0), true);
        due("as held", mill.count(7), 8);
        due("count(10)", mill.count(10), 2);
        mill.hold(2);
        due("held anew", mill.restore(2), true);
        due("as held anew", mill.count(7), 8);
    }

    private static void counts() {
        promise = 39;
        StateMill chain = mill(CHAIN);
        int[] all = {6, 1, 0, 6, 15, 4, 3, 1 * 8 + 2 * 64 + 3 * 512 + 4 * 4096 + 5 * 32768, 0, 0, 0, 1, 1, 6, 2};
        for (int what = 0; what < all.length; what++) {
            due("count(" + what + ")", chain.count(what), all[what]);
        }
        due("count(15)", chain.count(15), NONE);
        due("count(-1)", chain.count(-1), NONE);
        StateMill self = mill("state a;state b;state c;move a 0 a 0;move b 0 c 0;");
        due("open moves", self.count(2), 4);
        due("told answers", self.count(3), 2);
        due("a leads to itself alone", self.count(11), 3);
        due("none apart", self.count(5), OPEN);
        due("one state", mill("state a;").count(14), OPEN);
        due("two states", mill("state a;state b;").count(14), 2);
        StateMill ring = mill("state a;state b;state c;inputs 1;move a 0 b 0;move b 0 c 0;move c 0 a 0;");
        due("a ring of three has no lesser one", ring.count(14), 3);
        int[] bits = {0, 0, 1, 2, 2, 3, 3};
        StringBuilder text = new StringBuilder();
        for (int n = 0; n < 7; n++) {
            due("bits of " + n, mill(text.toString()).count(6), bits[n]);
            text.append("state ").append((char) ('a' + n)).append(";");
        }
        StateMill codes = mill("state a;state b;state c;code a 3;");
        due("proper", codes.count(12), 1);
        codes.code(0, 4);
        due("above", codes.count(12), 0);
        codes.code(0, 2);
        due("alike", codes.count(12), 0);
    }

    /** No call may throw, whatever it is asked. */
    private static void wildArguments() {
        promise = 0;
        int[] wild = {LOW, -100, -3, -2, -1, 0, 1, 5, 6, 7, 63, 64, 12345, FAR};
        String[] texts = {"", "state a;", FOUR, CHAIN, BRIDGE, "state a;state b;state c;state d;state e;inputs 4;"};
        for (String text : texts) {
            StateMill mill = mill(text);
            for (int a : wild) {
                for (int b : wild) {
                    askAll(mill, a, b, 0);
                    askAll(mill, a, 0, b);
                    askAll(mill, 0, a, b);
                    askAll(mill, b, b, a);
                }
            }
        }
    }

    private static void askAll(StateMill mill, int a, int b, int c) {
        try {
            mill.back(a);
            mill.set(a, b, c, a);
            mill.code(a, b);
            mill.move(a, b, c);
            mill.apart(a, b, c);
            mill.word(a, b, c);
            mill.shown(a);
            mill.greatest(a);
            mill.fewest(a);
            mill.isClass(a);
            mill.leads(a, b);
            mill.small(a, b, c);
            mill.home(a);
            mill.met(a);
            mill.run(a, b, c, b);
            mill.goesOn(a);
            mill.together(a, b);
            mill.partition(a);
            mill.into(a);
            mill.split(a);
            mill.tail(a);
            mill.part(a, b, c);
            mill.series(a, b, c, b, c);
            mill.beside(a, b, c, a, b);
            mill.hangs(a, b);
            mill.cube(a, b, c);
            mill.coded(a, b);
            mill.best(a, b);
            mill.hold(a);
            mill.restore(b);
            mill.count(a);
            asked++;
        } catch (RuntimeException thrown) {
            wrong++;
            System.out.println("thrown with " + a + ", " + b + ", " + c + ": " + thrown);
        }
    }
}
