/**
 * The document again, sentence by sentence: each one that names an edge (too small, too large, empty, full, a refused
 * call, what there is none of) is quoted and has rows of its own, which fail if it does not hold.
 */
public final class EdgeTest {
    private static final int NONE = StateMill.NONE;
    private static final int OPEN = -2;
    private static final int FAR = Integer.MAX_VALUE;
    private static final int LOW = Integer.MIN_VALUE;
    private static final int[] WILD = {LOW, -65536, -3, 8, 64, 1000000, 12435, FAR};

    /** Six STATES of which nothing is told: all are ALIKE ENOUGH, and every PARTITION GOES ON. */
    private static final String SIX = "state a;state b;state c;state d;state e;state f;";
    /** a, e, f go round in three, b, c in two, d nowhere; a by 0 answers 0 and b 1: ROUNDS 0 to 5, each of two once. */
    private static final String WHEELS = SIX + "inputs 1;"
        + "move a 0 e 0;move e 0 f open;move f 0 a open;move b 0 c 1;move c 0 b open;";
    /** Any two lead on to any two, one after the other: ROUNDS 0 to 14, each of two once, which is the most. */
    private static final String LONGEST = SIX + "inputs 4;"
        + "move a 0 f 0;move a 1 f open;move a 2 d open;move b 0 open 1;move b 1 e open;move b 2 f open;move b 3 c open;"
        + "move c 0 b open;move c 1 a open;move c 2 d open;move c 3 d open;move d 0 b open;move d 1 a open;move d 2 c open;"
        + "move d 3 b open;move e 0 b open;move e 2 e open;move e 3 e open;move f 0 e open;move f 1 c open;move f 3 a open;";
    /** By ANSWERS any two are APART. */
    private static final String APART = SIX + "move a 0 open 0;move b 0 open 0;move c 0 open 1;move d 0 open 1;"
        + "move e 0 open 2;move f 0 open 2;move a 1 open 0;move b 1 open 3;move c 1 open 0;move d 1 open 3;"
        + "move e 1 open 0;move f 1 open 3;";
    /** a c | b d by 0 and by 1; a by 0 to b, by 1 to c, and so on: 0 turns BIT 0 over, 1 turns BIT 1 over. */
    private static final String TURNS = "state a;state b;state c;state d;"
        + "move a 0 b 0;move a 1 c 0;move b 0 a 1;move b 1 d 1;move c 0 d 0;move c 1 a 0;move d 0 c 1;move d 1 b 1;";
    private static final String OVERLAP = "state a;state b;state c;inputs 4;move a 0 a 0;move c 0 c 1;"
        + "move a 1 b open;move b 1 c open;move b 2 a open;move c 2 b open;";

    private static String sentence = "";
    private static int sentences;
    private static int asked;
    private static int wrong;

    public static void main(String[] args) {
        texts();
        blanksAndSigns();
        tokens();
        lines();
        statesAndInputs();
        movesAndCodes();
        syntaxAndRoom();
        meaningFaults();
        textsInPlace();
        newObject();
        tape();
        readAndPlace();
        byHand();
        undone();
        slots();
        moves();
        apartOnes();
        words();
        shownWords();
        classes();
        fewest();
        small();
        homeAndMet();
        runs();
        partitionNumbers();
        partitions();
        intoAndSplit();
        tails();
        parts();
        seriesOnes();
        besideOnes();
        bitsAndProper();
        hanging();
        cubes();
        allCubes();
        nextCodes();
        sumAndCoded();
        best();
        bestOfAll();
        counts();
        askedAgain();
        System.out.println(sentences + " sentences, " + asked + " answers, " + wrong + " wrong");
        if (wrong > 0) {
            System.exit(1);
        }
    }

    // ---- how it is asked

    private static void says(String words) {
        sentence = words;
        sentences++;
    }

    private static void due(String call, long got, long want) {
        asked++;
        if (got != want) {
            wrong++;
            System.out.println("\"" + sentence + "\": " + call + " answered " + got + ", due is " + want);
        }
    }

    private static void due(String call, boolean got, boolean want) {
        due(call, got ? 1 : 0, want ? 1 : 0);
    }

    private static void same(String call, String got, String want) {
        due(call + ": " + got + " for " + want, got.equals(want), true);
    }

    /** A refused call: it answers so, and all that can be seen stays as it is. */
    private static void refused(StateMill mill, String call, boolean did, String ahead) {
        due(call, did, false);
        same(call, picture(mill), ahead);
    }

    private static String picture(StateMill mill) {
        StringBuilder seen = new StringBuilder();
        for (int what = 0; what < 15; what++) {
            seen.append(mill.count(what)).append(' ');
        }
        for (int state = 0; state < 6; state++) {
            for (int input = 0; input < 4; input++) {
                seen.append(mill.move(state, input, 0)).append('/').append(mill.move(state, input, 1)).append(' ');
            }
        }
        return seen.toString();
    }

    private static void put(StateMill mill, String text) {
        int more = (20 - text.length() % 20) % 20;
        String padded = text + " ".repeat(more);
        for (int at = 0; at < padded.length(); at += 20) {
            int[] five = new int[5];
            for (int k = 0; k < 20; k++) {
                five[k / 4] = five[k / 4] << 8 | padded.charAt(at + k) & 255;
            }
            mill.feed(five[0], five[1], five[2], five[3], five[4]);
        }
        mill.back(more);
    }

    private static StateMill mill(String text) {
        StateMill mill = new StateMill();
        put(mill, text);
        due("read of <" + text + ">", mill.read(), 0);
        return mill;
    }

    private static String states(int many) {
        return SIX.substring(0, 8 * many);
    }

    private static void fault(String text, int number, int place) {
        StateMill mill = new StateMill();
        put(mill, text);
        String shown = text.length() > 90 ? text.substring(0, 90) + ".." : text;
        due("bytes of <" + shown + ">", mill.count(8), text.length());
        due("read of <" + shown + ">", mill.read(), number);
        due("place in <" + shown + ">", mill.place(), place);
    }

    private static void fine(String text) {
        fault(text, 0, NONE);
    }

    // ---- texts, TOKENS, FAULTS

    private static void texts() {
        says("A TEXT has 2,000 bytes at most");
        fine(" ".repeat(1992) + "state a;");
        fault(" ".repeat(1999) + "?", 1, 1999);
        fault(" ".repeat(1995) + "state", 1, 2000);
        fault("state" + " ".repeat(1995), 1, 2000);
        fault(" ".repeat(1986) + "state abcdefgh", 1, 2000);
        fault(" ".repeat(1989) + "inputs 0004", 1, 2000);
        due("its STATES", mill(" ".repeat(1992) + "state a;").count(0), 1);
        says("text: {TELL}");
        fine("");
        fine(" ");
        fine(" \t\r\n");
    }

    private static boolean isBlank(int sign) {
        return sign == 9 || sign == 10 || sign == 13 || sign == 32;
    }

    private static void blanksAndSigns() {
        for (int sign = 0; sign < 256; sign++) {
            char one = (char) sign;
            boolean letter = one >= 'a' && one <= 'z';
            boolean digit = one >= '0' && one <= '9';
            says("with blanks (9, 10, 13, 32) between or not, byte " + sign);
            if (isBlank(sign)) {
                fine("inputs" + one + "3;");
                fine(one + "inputs 3" + one + ";" + one);
            } else if (digit) {
                fault("inputs" + one + "3;", one == '0' ? 0 : 5, one == '0' ? NONE : 6);
            } else {
                fault("inputs" + one + "3;", 1, letter ? 0 : 6);
            }
            says("all else, is no TOKEN, byte " + sign);
            fault("" + one, isBlank(sign) ? 0 : 1, isBlank(sign) ? NONE : 0);
            fault("state " + one + ";", letter ? 0 : 1, letter ? NONE : isBlank(sign) ? 7 : 6);
            fault("inputs " + one + ";", one >= '1' && one <= '4' ? 0 : digit ? 5 : 1,
                one >= '1' && one <= '4' ? NONE : isBlank(sign) ? 8 : 7);
            fault("state a" + one, 1, letter || isBlank(sign) ? 8 : one == ';' ? NONE : 7, one);
        }
    }

    /** Behind "state a" a ; ends the line, so that there is no FAULT. */
    private static void fault(String text, int number, int place, char last) {
        fault(text, last == ';' ? 0 : number, last == ';' ? NONE : place);
    }

    private static void tokens() {
        says("NAMES (letters a .. z, 8 at most)");
        for (int size = 1; size < 40; size++) {
            fault("state " + "q".repeat(size) + ";", size <= 8 ? 0 : 1, size <= 8 ? NONE : 6);
        }
        fine("state azazazaz;move azazazaz 0 azazazaz 0;code azazazaz 1;");
        says("none of the words in quotes");
        for (String word : new String[] {"state", "inputs", "move", "code", "open"}) {
            fault("state " + word + ";", 1, 6);
            fault("state a;move " + word + " 0 a 0;", 1, 13);
            fault("state a;move a 0 " + word + " 0;", word.equals("open") ? 0 : 1, word.equals("open") ? NONE : 17);
            fault("state a;code " + word + " 0;", 1, 13);
            fine("state " + word + "s;");
            fine("state x" + word + ";");
            fine("state " + word.substring(1) + ";");
            fine("state " + word.substring(0, word.length() - 1) + ";");
            for (int k = 0; k < word.length(); k++) {
                fine("state " + word.substring(0, k) + "z" + word.substring(k + 1) + ";");
            }
        }
        says("INTS (1 to 4 digits)");
        for (int size = 1; size < 40; size++) {
            fault("inputs " + "0".repeat(size - 1) + "3;", size <= 4 ? 0 : 1, size <= 4 ? NONE : 7);
        }
        due("0003 is 3", mill("inputs 0003;").count(1), 3);
        fault("inputs 9999;", 5, 7);
        fault("inputs 99999;", 1, 7);
        fault("inputs 1000;", 5, 7);
        fault("inputs 0010;", 5, 7);
        fault("inputs 4294967297;", 1, 7);
        says("TOKENS, the longest that can be");
        fault("statea;", 1, 0);
        fault("state abcdefghi;", 1, 6);
        fault("inputs 12345;", 1, 7);
        fault("state a;movea 0 a 0;", 1, 8);
        fault("state a;move a 0 aopen 0;", 4, 17);
        fine("state a;move a0a0;move a0open0;move a0a open;code a7;inputs4;");
        fine("state\na\n;\nmove\na\n0\na\n0\n;\ncode\na\n7\n;\ninputs\n4\n;\n");
        due("a and b are two", mill("state a;state ab;state abc;move ab 0 abc 0;").move(1, 0, 0), 2);
    }

    /** Each word or sign in each place of each line: it fits, or it is a SYNTAX at it; each line cut: at the end. */
    private static void lines() {
        String[][] forms = {
            {"state", "N", ";"}, {"inputs", "I", ";"}, {"code", "N", "I", ";"}, {"move", "N", "I", "T", "A", ";"}
        };
        String[] all = {"z", "1", ";", "open", "state", "inputs", "move", "code", "?", "abcdefghi", "12345"};
        for (String[] form : forms) {
            String line = "";
            for (int k = 0; k < form.length; k++) {
                says("SYNTAX: a TOKEN, or what is none, with which no text goes on");
                for (String word : all) {
                    boolean fits = switch (form[k]) {
                        case "N" -> word.equals("z");
                        case "I" -> word.equals("1");
                        case "T" -> word.equals("z") || word.equals("open");
                        case "A" -> word.equals("1") || word.equals("open");
                        case ";" -> word.equals(";");
                        default -> word.length() > 3 && word.length() < 7 && !word.equals("open") && !word.equals("12345");
                    };
                    if (!fits) {
                        fault("state y;" + line + word + " ;", 1, 8 + line.length());
                    }
                }
                if (k > 0) {
                    says("the text's end: its length");
                    fault(line, 1, line.length());
                    fault(line.trim(), 1, line.trim().length());
                    fault(line + " \n\n", 1, line.length() + 3);
                }
                line += switch (form[k]) {
                    case "N", "T" -> "z ";
                    case "I", "A" -> "1 ";
                    default -> form[k] + " ";
                };
            }
            says("TELL");
            fault(line.trim(), form[0].equals("state") || form[0].equals("inputs") ? 0 : 4,
                form[0].equals("state") || form[0].equals("inputs") ? NONE : 5);
        }
        says("(NAME | 'open') (INT | 'open')");
        StateMill four = mill("state z;inputs 4;move z 0 z 1;move z 1 z open;move z 2 open 1;move z 3 open open;");
        due("open moves", four.count(2), 2);
        due("told answers", four.count(3), 2);
    }

    private static void statesAndInputs() {
        says("STATES, 6 at most");
        for (int many = 0; many <= 6; many++) {
            due("count(0)", mill(states(many)).count(0), many);
        }
        fault(SIX + "state g;", 2, 48);
        says("numbered from 0 on as they stand");
        StateMill turned = mill("state z;move c 0 z 3;state c;inputs 1;move a 0 c 1;state a;");
        due("z is 0", turned.move(1, 0, 0), 0);
        due("c is 1", turned.move(2, 0, 0), 1);
        due("a is 2", turned.move(2, 0, 1), 1);
        says("INPUTS, 1 .. 4: as many as the last line of them tells");
        for (int many = 0; many < 20; many++) {
            boolean right = many >= 1 && many <= 4;
            fault("inputs " + many + ";", right ? 0 : 5, right ? NONE : 7);
        }
        due("4, then 1", mill("inputs 4;inputs 1;").count(1), 1);
        due("1, then 4", mill("inputs 1;state a;inputs 4;").count(1), 4);
        says("2 without");
        due("of nothing", mill("").count(1), 2);
        due("of a STATE", mill("state a;").count(1), 2);
        fault("state a;move a 2 a 0;", 5, 15);
        StateMill after = mill("inputs 4;");
        put(after, "state a;");
        due("read", after.read(), 0);
        due("not those of the text ahead", after.count(1), 2);
        says("of those that tell 1 .. 4; 2 without");
        fault("state a;move a 3 a 0;inputs 4;inputs 0;", 5, 37);
        fault("state a;move a 3 a 0;inputs 4;inputs 5;", 5, 37);
        fault("state a;move a 2 a 0;inputs 9;", 5, 15);
        fault("state a;move a 1 a 0;inputs 9;", 5, 28);
        says("INPUTS: 0 and so on");
        for (int many = 1; many <= 4; many++) {
            StateMill mill = mill("state a;inputs " + many + ";");
            for (int input = -1; input <= 5; input++) {
                due("leads by " + input + " of " + many, mill.leads(0, input), input >= 0 && input < many ? 0 : NONE);
            }
        }
    }

    private static void movesAndCodes() {
        says("with an ANSWER 0 .. 3, or OPEN");
        for (int answer = 0; answer < 12; answer++) {
            fault("state a;move a 0 a " + answer + ";", answer <= 3 ? 0 : 5, answer <= 3 ? NONE : 19);
        }
        for (int answer = 0; answer <= 3; answer++) {
            due("answer", mill("state a;move a 0 a " + answer + ";").move(0, 0, 1), answer);
        }
        says("of two lines for one and the same MOVE the last one");
        StateMill last = mill("state a;state b;move a 0 b 3;move a 0 open open;move b 1 open open;move b 1 a 2;");
        due("whereto is OPEN then", last.move(0, 0, 0), OPEN);
        due("the ANSWER, too", last.move(0, 0, 1), OPEN);
        due("whereto is told then", last.move(1, 1, 0), 0);
        due("the ANSWER, too", last.move(1, 1, 1), 2);
        says("of none: both OPEN");
        due("whereto", last.move(0, 1, 0), OPEN);
        due("the ANSWER", last.move(0, 1, 1), OPEN);
        says("A MOVE is TOLD if whereto it leads is");
        due("ANSWERS tell no MOVE", mill("state a;move a 0 open 1;").count(2), 2);
        due("it needs no ANSWER", mill("state a;move a 0 a open;").count(2), 1);
        says("Codes of STATES, 0 .. 7");
        for (int code = 0; code < 20; code++) {
            fault("state a;code a " + code + ";", code <= 7 ? 0 : 5, code <= 7 ? NONE : 15);
        }
        due("0", mill("state a;state b;code b 0;").count(7), 0);
        due("7", mill("state a;state b;code b 7;").count(7), 56);
        says("(the last one told; without: its number)");
        due("the last one", mill("state a;code a 7;code a 3;").count(7), 3);
        due("its number", mill(SIX).count(7), 0 + 1 * 8 + 2 * 64 + 3 * 512 + 4 * 4096 + 5 * 32768);
    }

    private static String codeLines(int many) {
        return "code a 7;".repeat(many);
    }

    private static void syntaxAndRoom() {
        says("2 ROOM: a 401st TOKEN");
        String full = "state a;inputs 1;inputs 1;inputs 1;" + codeLines(97);
        int end = full.length();
        fine(full);
        fine(full + "  \n");
        for (String word : new String[] {"code", "state", "move", "inputs"}) {
            fault(full + word, 2, end);
            fault(full + " " + word, 2, end + 1);
        }
        fault(full + "code a 7;", 2, end);
        fault(full + "code a 8;", 2, end);
        String half = "state a;state b;" + "move a 0 a 0;".repeat(60) + "inputs 1;".repeat(10);
        fault(half + "move a 0 a 0", 2, half.length() + 11);
        fault(half + "move a 0 a 9;", 2, half.length() + 11);
        fault(SIX + codeLines(96) + "state g;", 2, 48 + 9 * 95 + 7);
        says("SYNTAX with a 400th TOKEN, or at the end behind it");
        fault(half + "move a 0 ;", 1, half.length() + 9);
        fault(half + "move a 0 a", 1, half.length() + 10);
        says("of one place the least");
        for (String word : new String[] {"open", "a", "1", ";", "?", "abcdefghi", "12345"}) {
            fault(full + word, 1, end);
        }
        fault(half + "move a 0 a a", 1, half.length() + 11);
        says("a 7th line of 'state' (at this word)");
        fault(SIX + " state g;", 2, 49);
        fault(SIX + "state a;", 2, 48);
        fault("state a;".repeat(7), 2, 48);
        fault(SIX + "inputs 9;code q 9;state g;", 2, 66);
        says("the first by its place");
        fault("?" + SIX + "state g;", 1, 0);
        fault(SIX + "? state g;", 1, 48);
        fault(SIX + "state ?", 2, 48);
        fault(SIX + "state", 2, 48);
        fault(SIX + codeLines(95) + "state g;", 2, 48 + 9 * 95);
        says("If there is none, likewise");
        fault("state a;state a;?", 1, 16);
        fault("state a;move b 9 b 9;code a", 1, 27);
        fault("inputs 0;" + SIX + "state g;", 2, 57);
        fault("state a;state a;state a;state a;state a;state a;state g;", 2, 48);
    }

    private static void meaningFaults() {
        says("3 TWICE: (at it) a NAME in a line of 'state' that an earlier one has told");
        fault("state a;state a;", 3, 14);
        fault("state a;state b;state b;state a;", 3, 22);
        fault("state a;state ab;state b;state ab;", 3, 31);
        fault(states(5) + "state a;", 3, 46);
        fault("state abcdefgh;state abcdefgi;state abcdefgh;", 3, 36);
        fine("state abcdefgh;state abcdefgi;state bbcdefgh;state abcdefg;");
        says("4 NAME: (at it) in another line no such STATE in the whole text");
        fault("move a 0 a 0;", 4, 5);
        fault("state a;move b 0 a 0;", 4, 13);
        fault("state a;move a 0 b 0;", 4, 17);
        fault("state a;code b 0;", 4, 13);
        fault("state ab;code a 0;", 4, 14);
        fault("state a;code ab 0;", 4, 13);
        fine("move b 0 a 0;code b 3;state a;state b;");
        says("(one told twice is the first of the two)");
        fault("code a 0;state b;state a;state a;", 3, 31);
        fault("move a 0 a 0;state a;state a;", 3, 27);
        says("5 WRONG (at the INT)");
        fault("inputs 0;", 5, 7);
        fault("inputs  5;", 5, 8);
        fault("state a;inputs 1;move a 1 a 0;", 5, 24);
        fault("state a;inputs 4;move a 4 a 0;", 5, 24);
        fine("state a;inputs 4;move a 3 a 3;");
        fault("state a;move a 0 a 4;", 5, 19);
        fault("state a;move a 0 open 9999;", 5, 22);
        fault("state a;code a 8;", 5, 15);
        fault("state a;code a 0010;", 5, 15);
        says("FAULTS of a text, the first by its place");
        fault("state a;move b 9 c 9;", 4, 13);
        fault("state a;move a 9 c 9;", 5, 15);
        fault("state a;move a 0 c 9;", 4, 17);
        fault("state a;code b 9;", 4, 13);
        fault("code b 9;state a;state a;", 4, 5);
        fault("state a;state a;code b 9;", 3, 14);
        fault("state a;inputs 9;state a;", 5, 15);
    }

    private static void textsInPlace() {
        String[] faulty = {"?", "state", SIX + "state g;", "state x;state x;", "code x 0;", "inputs 9;"};
        for (String text : faulty) {
            says("A text with a FAULT changes nothing but the tape: " + text);
            StateMill mill = mill(TURNS);
            mill.hold(1);
            mill.set(0, 0, OPEN, 3);
            mill.code(3, 7);
            String ahead = picture(mill);
            put(mill, text);
            due("a fault", mill.read() > 0, true);
            same("all else", picture(mill), ahead);
            due("it can still be undone", mill.undo() && mill.undo(), true);
            due("undone", mill.move(0, 0, 0), 1);
            due("a SLOT still holds it", mill.restore(1), true);
        }
        for (String text : new String[] {"", "state x;", "inputs 1;"}) {
            says("else it is in place of the one ahead; nothing can be undone, SLOTS hold nothing: " + text);
            StateMill mill = mill(TURNS + "code a 7;");
            for (int slot = 0; slot < 3; slot++) {
                mill.hold(slot);
            }
            mill.set(0, 0, OPEN, 3);
            mill.code(3, 7);
            put(mill, text);
            due("no fault", mill.read(), 0);
            same("as on a new object", picture(mill), picture(mill(text)));
            due("undo()", mill.undo(), false);
            for (int slot = 0; slot < 3; slot++) {
                due("restore", mill.restore(slot), false);
            }
        }
    }

    // ---- Promises 1 to 9, 37, 38

    private static void newObject() {
        says("No STATES, 2 INPUTS");
        StateMill mill = new StateMill();
        int[] due = {0, 2, 0, 0, 0, OPEN, 0, 0, 0, 0, 0, 0, 1, 0, OPEN};
        for (int what = 0; what < due.length; what++) {
            due("count(" + what + ")", mill.count(what), due[what]);
        }
        due("leads(0, 0)", mill.leads(0, 0), 0);
        due("leads(0, 1)", mill.leads(0, 1), 0);
        due("leads(0, 2)", mill.leads(0, 2), NONE);
        due("leads(1, 0)", mill.leads(1, 0), NONE);
        due("place()", mill.place(), NONE);
        due("back(0)", mill.back(0), 0);
        due("back(1)", mill.back(1), NONE);
        due("undo()", mill.undo(), false);
        due("set", mill.set(0, 0, OPEN, OPEN), false);
        due("code", mill.code(0, 0), false);
        for (int slot = 0; slot < 3; slot++) {
            due("restore", mill.restore(slot), false);
        }
        due("restore of what was held", mill.hold(0) && mill.restore(0), true);
        due("public static final int NONE = -1", StateMill.NONE, -1);
    }

    private static void tape() {
        says("feed: NONE, and nothing comes, if it would have more than 2,000");
        for (int left = 0; left <= 40; left++) {
            StateMill mill = new StateMill();
            for (int k = 0; k < 100; k++) {
                mill.feed(0x20202020, 0x20202020, 0x20202020, 0x20202020, 0x20202020);
            }
            due("back", mill.back(left), 2000 - left);
            due("feed with " + left + " left", mill.feed(-1, -1, -1, -1, -1), left >= 20 ? 2020 - left : NONE);
            due("bytes then", mill.count(8), left >= 20 ? 2020 - left : 2000 - left);
            due("read", mill.read(), left >= 20 ? 1 : 0);
            due("nothing came, or all", mill.place(), left >= 20 ? 2000 - left : NONE);
        }
        says("Twenty bytes, the highest of a first");
        for (int at = 0; at < 20; at++) {
            int[] five = {0x20202020, 0x20202020, 0x20202020, 0x20202020, 0x20202020};
            five[at / 4] |= 0xDF << 8 * (3 - at % 4);
            StateMill mill = new StateMill();
            due("feed", mill.feed(five[0], five[1], five[2], five[3], five[4]), 20);
            due("read", mill.read(), 1);
            due("place", mill.place(), at);
        }
        says("back: NONE, and nothing goes, if it has not so many, or n is below 0");
        StateMill mill = new StateMill();
        put(mill, "state a;state b;");
        for (int n : new int[] {17, 18, 2000, FAR, -1, -16, LOW}) {
            due("back(" + n + ")", mill.back(n), NONE);
            due("bytes then", mill.count(8), 16);
        }
        due("back(0)", mill.back(0), 16);
        due("back(1)", mill.back(1), 15);
        due("back(15)", mill.back(15), 0);
        due("back(1)", mill.back(1), NONE);
        due("back(0)", mill.back(0), 0);
        says("The last n bytes of the tape go");
        put(mill, "state a;state b;");
        mill.back(8);
        put(mill, "state c; state d;");
        due("read", mill.read(), 0);
        due("three are left", mill.count(0), 3);
        put(mill, "state a;xyz");
        mill.back(3);
        due("what is gone is not read", mill.read(), 0);
        put(mill, "state abc");
        mill.back(2);
        due("nor is the rest of a NAME", mill.read(), 1);
        due("it ends there", mill.place(), 7);
    }

    private static void readAndPlace() {
        says("The tape, which is empty then, is read: 0, or the number of its FAULT");
        StateMill mill = mill("state a;");
        due("empty", mill.count(8), 0);
        put(mill, "state a;?");
        due("a fault", mill.read(), 1);
        due("empty", mill.count(8), 0);
        says("The byte of the latest read()'s FAULT; NONE without");
        due("place()", mill.place(), 8);
        due("it stays", mill.place(), 8);
        mill.set(0, 0, 0, 0);
        put(mill, "x");
        due("a tape that was not read yet tells nothing", mill.place(), 8);
        due("read", mill.read(), 1);
        due("the first byte", mill.place(), 0);
        due("read of the empty tape", mill.read(), 0);
        due("NONE without", mill.place(), NONE);
        due("no STATES then", mill.count(0), 0);
    }

    private static void byHand() {
        says("A MOVE is set by hand: whereto (-2: OPEN), the ANSWER (0 .. 3; -2: OPEN): true");
        StateMill mill = mill(SIX + "inputs 4;");
        int[][] right = {{0, 0, 0, 0}, {5, 3, 5, 3}, {5, 3, OPEN, 3}, {5, 3, OPEN, OPEN}, {0, 3, 5, OPEN}, {5, 0, 0, 0}};
        for (int[] r : right) {
            due("set", mill.set(r[0], r[1], r[2], r[3]), true);
            due("whereto", mill.move(r[0], r[1], 0), r[2]);
            due("the ANSWER", mill.move(r[0], r[1], 1), r[3]);
        }
        says("set: false, and nothing happens: both are so already");
        String ahead = picture(mill);
        refused(mill, "set(5,0,0,0)", mill.set(5, 0, 0, 0), ahead);
        refused(mill, "set(1,1,-2,-2)", mill.set(1, 1, OPEN, OPEN), ahead);
        says("set: false, and nothing happens: no such ones");
        int[][] no = {
            {-1, 0, 0, 1}, {6, 0, 0, 1}, {0, -1, 0, 1}, {0, 4, 0, 1}, {0, 0, -1, 1}, {0, 0, -3, 1}, {0, 0, 6, 1},
            {0, 0, 0, -1}, {0, 0, 0, -3}, {0, 0, 0, 4}
        };
        for (int[] n : no) {
            refused(mill, "set of none", mill.set(n[0], n[1], n[2], n[3]), ahead);
        }
        for (int wild : WILD) {
            refused(mill, "set " + wild, mill.set(wild, 0, 0, 1) || mill.set(0, wild, 0, 1)
                || mill.set(0, 0, wild, 1) || mill.set(0, 0, 0, wild), ahead);
        }
        says("A STATE's code is set by hand (0 .. 7): true");
        for (int code = 7; code >= 0; code--) {
            due("code", mill.code(5, code), true);
            due("it is", mill.count(7) >> 15, code);
        }
        says("code: false, and nothing happens: it is so already, no such ones");
        ahead = picture(mill);
        refused(mill, "code(5,0)", mill.code(5, 0), ahead);
        refused(mill, "code(4,4)", mill.code(4, 4), ahead);
        refused(mill, "code(6,0)", mill.code(6, 1), ahead);
        refused(mill, "code(-1,0)", mill.code(-1, 1), ahead);
        refused(mill, "code(0,8)", mill.code(0, 8), ahead);
        refused(mill, "code(0,-1)", mill.code(0, -1), ahead);
        for (int wild : WILD) {
            refused(mill, "code " + wild, mill.code(wild, 1) || mill.code(0, wild), ahead);
        }
    }

    private static void undone() {
        says("The last thing done by hand is undone: true");
        StateMill mill = mill(TURNS);
        String ahead = picture(mill);
        mill.set(3, 1, OPEN, 3);
        String first = picture(mill);
        mill.code(3, 0);
        String second = picture(mill);
        mill.set(3, 1, 3, 3);
        due("undo()", mill.undo(), true);
        same("the third", picture(mill), second);
        due("undo()", mill.undo(), true);
        same("the second", picture(mill), first);
        due("undo()", mill.undo(), true);
        same("the first", picture(mill), ahead);
        says("undo: false: there is none");
        refused(mill, "undo()", mill.undo(), ahead);
        says("what is refused is no thing done by hand");
        mill.set(0, 0, 1, 0);
        mill.set(9, 0, 0, 0);
        mill.code(0, 0);
        mill.code(0, 8);
        due("undo()", mill.undo(), false);
        says("(the last 40 can be)");
        for (int done = 38; done <= 90; done += 13) {
            StateMill many = mill("state a;");
            for (int k = 1; k <= done; k++) {
                due("done", k % 2 == 0 ? many.set(0, 0, OPEN, k / 2 % 4) : many.code(0, k / 2 % 7 + 1), true);
                due("can be undone", many.count(9), Math.min(k, 40));
            }
            for (int k = done; k > Math.max(0, done - 40); k--) {
                due("undo", many.undo(), true);
                due("the code", many.count(7), k > 1 ? (k - (k + 1) % 2 - k % 2 * 2) / 2 % 7 + 1 : 0);
                due("left", many.count(9), k - 1 - Math.max(0, done - 40));
            }
            refused(many, "a 41st", many.undo(), picture(many));
        }
    }

    private static void slots() {
        says("are held in a SLOT (0 .. 2): true; false: no such one");
        StateMill mill = mill(TURNS);
        for (int slot = -2; slot < 6; slot++) {
            due("hold(" + slot + ")", mill.hold(slot), slot >= 0 && slot <= 2);
            due("how many hold", mill.count(10), Math.max(0, Math.min(3, slot + 1)));
        }
        due("hold(FAR)", mill.hold(FAR) || mill.hold(LOW), false);
        due("held anew", mill.hold(1), true);
        due("is no further one", mill.count(10), 3);
        says("restore: false, and nothing happens: no such one, it holds nothing");
        StateMill one = mill(TURNS);
        one.hold(1);
        one.set(0, 0, OPEN, OPEN);
        String ahead = picture(one);
        for (int slot : new int[] {-1, 0, 2, 3, FAR, LOW}) {
            refused(one, "restore(" + slot + ")", one.restore(slot), ahead);
        }
        says("All is as a SLOT holds it (it stays there; nothing can be undone then)");
        one.code(2, 6);
        due("restore(1)", one.restore(1), true);
        due("nothing can be undone", one.count(9), 0);
        due("undo()", one.undo(), false);
        StateMill as = mill(TURNS);
        as.hold(0);
        same("all", picture(one), picture(as));
        one.set(1, 1, OPEN, OPEN);
        due("it stays there", one.restore(1), true);
        same("all", picture(one), picture(as));
        says("All MOVES, ANSWERS and codes as they are are held");
        StateMill three = mill(WHEELS);
        for (int slot = 0; slot < 3; slot++) {
            three.set(3, 0, slot, slot);
            three.code(3, slot);
            due("hold", three.hold(slot), true);
            due("what was done by hand can still be undone", three.count(9), 2 * slot + 2);
        }
        for (int slot = 2; slot >= 0; slot--) {
            due("restore", three.restore(slot), true);
            due("whereto", three.move(3, 0, 0), slot);
            due("the ANSWER", three.move(3, 0, 1), slot);
            due("the code", three.count(7) >> 9 & 7, slot);
            due("the SLOTS stay", three.count(10), 3);
        }
    }

    private static void moves() {
        says("Of a MOVE: what 0 whereto, 1 the ANSWER (-2: OPEN). NONE for others");
        StateMill mill = mill(WHEELS);
        due("whereto", mill.move(0, 0, 0), 4);
        due("the ANSWER", mill.move(0, 0, 1), 0);
        due("OPEN", mill.move(3, 0, 0), OPEN);
        due("OPEN", mill.move(4, 0, 1), OPEN);
        int[][] no = {{6, 0, 0}, {-1, 0, 0}, {0, 1, 0}, {0, -1, 0}, {0, 0, 2}, {0, 0, -1}, {6, 0, 1}, {0, 1, 1}};
        for (int[] n : no) {
            due("move of none", mill.move(n[0], n[1], n[2]), NONE);
        }
        for (int wild : WILD) {
            due("move", mill.move(wild, 0, 0), NONE);
            due("move", mill.move(0, wild, 0), NONE);
            due("move", mill.move(0, 0, wild), NONE);
        }
    }

    // ---- Promises 10 to 21

    private static void apartOnes() {
        says("ROUND of two: 0, if by ANSWERS; else 1 more than the least ROUND");
        StateMill wheels = mill(WHEELS);
        int[][] rounds = {{0, 1, 0}, {5, 2, 1}, {4, 1, 2}, {0, 2, 3}, {5, 1, 4}, {4, 2, 5}};
        for (int[] r : rounds) {
            due("apart", wheels.apart(r[0], r[1], 0), 1);
            due("round", wheels.apart(r[0], r[1], 1), r[2]);
            due("the other way", wheels.apart(r[1], r[0], 1), r[2]);
        }
        due("no others", wheels.count(4), rounds.length);
        StateMill longest = mill(LONGEST);
        int seen = 0;
        for (int state = 0; state < 6; state++) {
            for (int other = 0; other < state; other++) {
                seen |= 1 << longest.apart(state, other, 1);
            }
        }
        due("each ROUND from 0 to 14", seen, (1 << 15) - 1);
        says("Of two STATES (one and the same, too)");
        for (int state = 0; state < 6; state++) {
            due("APART", longest.apart(state, state, 0), 0);
            due("ROUND", longest.apart(state, state, 1), OPEN);
        }
        says("what 0: 1 APART, else 0, 1 the ROUND (-2: not APART)");
        due("d and a", wheels.apart(3, 0, 0), 0);
        due("d and a", wheels.apart(3, 0, 1), OPEN);
        says("apart: NONE for others");
        int[][] no = {{6, 0, 0}, {-1, 0, 0}, {0, 6, 0}, {0, -1, 0}, {0, 1, 2}, {0, 1, -1}, {6, 6, 0}};
        for (int[] n : no) {
            due("apart of none", wheels.apart(n[0], n[1], n[2]), NONE);
        }
        for (int wild : WILD) {
            due("apart", wheels.apart(wild, 0, 0), NONE);
            due("apart", wheels.apart(0, wild, 1), NONE);
            due("apart", wheels.apart(0, 1, wild), NONE);
        }
        says("if by some INPUT their ANSWERS are both told and unlike");
        StateMill two = mill("state a;state b;inputs 4;");
        two.set(0, 3, OPEN, 0);
        due("one is OPEN", two.apart(0, 1, 0), 0);
        two.set(1, 3, OPEN, 0);
        due("alike", two.apart(0, 1, 0), 0);
        two.set(1, 3, OPEN, 3);
        due("unlike, by the last INPUT", two.apart(0, 1, 1), 0);
        two.set(0, 3, OPEN, OPEN);
        due("the other is OPEN", two.apart(0, 1, 0), 0);
        says("or both their MOVES are TOLD and lead to two STATES that are APART");
        StateMill led = mill("state a;state b;state c;state d;inputs 1;move a 0 c 0;move c 0 open 0;move d 0 open 1;");
        due("one MOVE is OPEN", led.apart(0, 1, 0), 0);
        led.set(1, 0, 3, OPEN);
        due("both are TOLD", led.apart(0, 1, 1), 1);
        led.set(1, 0, 2, OPEN);
        due("to one and the same", led.apart(0, 1, 0), 0);
    }

    private static void words() {
        says("The WORD of two STATES: how many INPUTS (i NONE), else the i-th, from 0 on; NONE: no such i");
        for (String text : new String[] {WHEELS, LONGEST, APART, TURNS}) {
            StateMill mill = mill(text);
            for (int state = 0; state < mill.count(0); state++) {
                for (int other = 0; other < mill.count(0); other++) {
                    oneWord(mill, state, other);
                }
            }
        }
        due("fifteen at most", mill(LONGEST).count(5) + 1, 15);
        StateMill wheels = mill(WHEELS);
        says("word: -2: they are not APART (whatever i is)");
        for (int i : new int[] {NONE, 0, 1, -5, 99, LOW, FAR}) {
            due("one and the same", wheels.word(2, 2, i), OPEN);
            due("d and a", wheels.word(3, 0, i), OPEN);
        }
        says("word: NONE: no such STATES");
        for (int i : new int[] {NONE, 0, 99}) {
            due("6", wheels.word(6, 0, i), NONE);
            due("6", wheels.word(0, 6, i), NONE);
            due("-1", wheels.word(-1, 0, i), NONE);
            due("-1", wheels.word(0, -1, i), NONE);
            due("6 twice", wheels.word(6, 6, i), NONE);
        }
        says("the shortest, of these the one whose first INPUT is lowest, then the next one, and so on");
        StateMill ways = mill("state a;state b;state c;state d;inputs 4;move a 3 c open;move b 3 d open;"
            + "move a 1 d open;move b 1 c open;move c 2 open 0;move d 2 open 1;move c 3 open 1;move d 3 open 0;");
        due("two INPUTS", ways.word(0, 1, NONE), 2);
        due("1, not 3", ways.word(0, 1, 0), 1);
        due("2, not 3", ways.word(0, 1, 1), 2);
        ways.set(0, 3, 2, 1);
        ways.set(1, 3, 3, 2);
        due("one INPUT is shorter, if higher", ways.word(0, 1, NONE), 1);
        due("3", ways.word(1, 0, 0), 3);
    }

    /** Goes along the WORD from both: it tells them apart by its last INPUT, and not sooner. */
    private static void oneWord(StateMill mill, int state, int other) {
        int round = mill.apart(state, other, 1);
        if (round == OPEN) {
            due("word", mill.word(state, other, NONE), OPEN);
            return;
        }
        due("length", mill.word(state, other, NONE), round + 1);
        int one = state;
        int two = other;
        for (int i = 0; i <= round; i++) {
            int input = mill.word(state, other, i);
            int answer = mill.move(one, input, 1);
            int otherAnswer = mill.move(two, input, 1);
            due("told apart by the " + i + "th", answer >= 0 && otherAnswer >= 0 && answer != otherAnswer, i == round);
            one = mill.move(one, input, 0);
            two = mill.move(two, input, 0);
        }
        due("one too far", mill.word(state, other, round + 1), NONE);
        due("below", mill.word(state, other, -2), NONE);
        due("far", mill.word(state, other, FAR), NONE);
    }

    private static void shownWords() {
        says("SHOWN: the word, of 6 INPUTS at most");
        StateMill mill = mill(WHEELS);
        due("six", mill.shown(NONE), 6);
        for (int i = 0; i < 6; i++) {
            due("shown(" + i + ")", mill.shown(i), 0);
        }
        says("shown: NONE: no such i");
        for (int i : new int[] {6, 7, -2, -3, LOW, FAR}) {
            due("shown(" + i + ")", mill.shown(i), NONE);
        }
        says("shown: -2: there is no such word (whatever i is)");
        // d and a go to c and e now, whose WORD has six INPUTS: seven are too many.
        mill.set(3, 0, 2, OPEN);
        due("seven", mill.word(3, 0, NONE), 7);
        for (int i : new int[] {NONE, 0, 6, -2, LOW, FAR}) {
            due("shown(" + i + ")", mill.shown(i), OPEN);
        }
        StateMill stops = mill("state a;state b;state c;inputs 2;move a 0 open 0;move b 0 open 1;move c 0 open open;"
            + "move a 1 open 0;move c 1 open 1;move b 1 open open;");
        due("both stop", stops.shown(NONE), OPEN);
        says("shown: how many INPUTS (i NONE; none are APART: 0)");
        for (String text : new String[] {"", "state a;", SIX, "state a;state b;move a 0 b 0;move b 0 a 0;"}) {
            due("shown(NONE)", mill(text).shown(NONE), 0);
            due("shown(0)", mill(text).shown(0), NONE);
        }
        says("gone along from both");
        StateMill both = mill("state a;state b;state c;state d;inputs 1;"
            + "move a 0 b open;move b 0 open 0;move c 0 d open;move d 0 open 1;");
        due("a and c to b and d, which are told by the first one already", both.shown(NONE), 2);
        says("that tells any two apart that are APART: likewise the shortest, of these the lowest");
        StateMill apart = mill(APART);
        due("none is told by one INPUT", apart.shown(NONE), OPEN);
        for (int state = 0; state < 6; state++) {
            apart.set(state, 0, state, state / 2);
            apart.set(state, 1, state, state % 2);
        }
        due("two", apart.shown(NONE), 2);
        due("0 ahead of 1", apart.shown(0), 0);
        due("then 1", apart.shown(1), 1);
    }

    private static void classes() {
        says("How many CLASSES there are");
        int[] all = {0, 1, 3, 7, 15, 31, 63};
        for (int many = 0; many <= 6; many++) {
            due("all alike enough", mill(states(many)).classes(), all[many]);
        }
        due("all apart", mill(APART).classes(), 6);
        says("GREATEST CLASSES: how many (i NONE; no STATES: 0), else the i-th (bits); NONE: no such i");
        StateMill none = new StateMill();
        due("no STATES", none.greatest(NONE), 0);
        due("no STATES", none.greatest(0), NONE);
        StateMill six = mill(SIX);
        due("one", six.greatest(NONE), 1);
        due("all", six.greatest(0), 63);
        due("no such", six.greatest(1), NONE);
        StateMill apart = mill(APART);
        due("six", apart.greatest(NONE), 6);
        for (int i = 0; i < 6; i++) {
            due("one each, the least first", apart.greatest(i), 1 << i);
        }
        for (int i : new int[] {6, -2, LOW, FAR}) {
            due("no such i", apart.greatest(i), NONE);
        }
        // Of six, a and b, c and d, e and f are APART: one of each two, in all ways.
        StateMill eight = mill(SIX + "inputs 3;move a 0 open 0;move b 0 open 1;move c 1 open 0;move d 1 open 1;"
            + "move e 2 open 0;move f 2 open 1;");
        int[] greatest = {21, 22, 25, 26, 37, 38, 41, 42};
        due("eight", eight.greatest(NONE), 8);
        for (int i = 0; i < 8; i++) {
            due("greatest(" + i + ")", eight.greatest(i), greatest[i]);
        }
        due("all", eight.classes(), 26);
        says("Whether a set of STATES (bits, one at least) is a CLASS: 1, 0; NONE: no such set");
        due("none of them", eight.isClass(0), NONE);
        due("one", eight.isClass(1), 1);
        due("the last one", eight.isClass(32), 1);
        due("two APART", eight.isClass(48), 0);
        due("all", eight.isClass(63), 0);
        due("all of six", six.isClass(63), 1);
        for (int set : new int[] {64, 65, 127, -1, -64, LOW, FAR}) {
            due("isClass(" + set + ")", six.isClass(set), NONE);
        }
        due("of no STATES", none.isClass(0), NONE);
        due("of no STATES", none.isClass(1), NONE);
        says("What a set of STATES (bits; 0: none) leads to by an INPUT (bits); NONE: no such ones");
        StateMill wheels = mill(WHEELS);
        due("all but d", wheels.leads(63, 0), 1 | 2 | 4 | 16 | 32);
        due("the last one", wheels.leads(32, 0), 1);
        due("d", wheels.leads(8, 0), 0);
        due("none", wheels.leads(0, 0), 0);
        for (int set : new int[] {64, -1, LOW, FAR}) {
            due("leads(" + set + ")", wheels.leads(set, 0), NONE);
        }
        for (int input : new int[] {1, -1, 4, LOW, FAR}) {
            due("leads(0, " + input + ")", wheels.leads(0, input), NONE);
        }
    }

    private static void fewest() {
        says("FEWEST: how many CLASSES (i NONE), else the i-th (bits); NONE: no such i; no STATES: no CLASSES");
        StateMill none = new StateMill();
        due("no STATES", none.fewest(NONE), 0);
        due("no STATES", none.fewest(0), NONE);
        for (int many = 1; many <= 6; many++) {
            StateMill alike = mill(states(many));
            due("one", alike.fewest(NONE), 1);
            due("all", alike.fewest(0), (1 << many) - 1);
            due("no such", alike.fewest(1), NONE);
        }
        StateMill apart = mill(APART);
        due("six", apart.fewest(NONE), 6);
        for (int i = 0; i < 6; i++) {
            due("one each, the least first", apart.fewest(i), 1 << i);
        }
        for (int i : new int[] {6, -2, LOW, FAR}) {
            due("no such i", apart.fewest(i), NONE);
        }
        says("of as few the one whose first CLASS has the least bits, then the second one, and so on");
        StateMill three = mill("state a;state b;state c;state d;inputs 1;move a 0 open 0;move b 0 open 1;move c 0 open 2;");
        due("three", three.fewest(NONE), 3);
        due("a without d", three.fewest(0), 1);
        due("b without d", three.fewest(1), 2);
        due("c with d", three.fewest(2), 12);
        StateMill first = mill("state a;state b;state c;state d;inputs 1;move b 0 open 1;move c 0 open 2;move d 0 open 3;");
        due("a is with the last one", first.fewest(0), 2);
        due("for 2 is less than 3", first.fewest(1), 4);
        due("and 9 is the last", first.fewest(2), 9);
        says("what each one leads to by each INPUT is, if it is any, all of it in one of them");
        // a with b leads to c and d, which are ALIKE ENOUGH, and these by the last INPUT to a and b.
        StateMill led = mill("state a;state b;state c;state d;inputs 4;move a 3 c open;move b 3 d open;"
            + "move c 3 a open;move d 3 b open;move a 0 open 0;move c 0 open 1;");
        due("two", led.fewest(NONE), 2);
        due("a with b", led.fewest(0), 3);
        due("c with d", led.fewest(1), 12);
        StateMill first0 = mill("state a;state b;state c;state d;inputs 1;move a 0 c 0;move b 0 d open;"
            + "move c 0 a 1;move d 0 b open;");
        due("likewise by the first INPUT: two", first0.fewest(NONE), 2);
        due("a with b", first0.fewest(0), 3);
        due("c with d", first0.fewest(1), 12);
        led.set(2, 3, OPEN, OPEN);
        led.set(3, 3, OPEN, OPEN);
        due("b may go with c, but a and b to c and d", led.fewest(NONE), 2);
        due("a alone leads to c alone", led.fewest(0), 1);
        due("b, c and d lead to d alone", led.fewest(1), 14);
    }

    private static void small() {
        says("Of the SMALL machine: what 0 whereto, 1 the ANSWER (-2: OPEN). NONE for others");
        StateMill over = mill(OVERLAP);
        due("a with b", over.fewest(0), 3);
        due("b with c", over.fewest(1), 6);
        due("by 0 to a", over.small(0, 0, 0), 0);
        due("by 0 answers 0", over.small(0, 0, 1), 0);
        due("by 0 to c", over.small(1, 0, 0), 1);
        due("by 0 answers 1", over.small(1, 0, 1), 1);
        due("by 1 to b and c", over.small(0, 1, 0), 1);
        due("by 2 to a and b", over.small(1, 2, 0), 0);
        says("to none: OPEN; by none: OPEN");
        due("by 3 to none", over.small(0, 3, 0), OPEN);
        due("by 3 no ANSWER", over.small(0, 3, 1), OPEN);
        due("by 1 no ANSWER", over.small(0, 1, 1), OPEN);
        says("it goes to the first CLASS in which all is to which this one leads");
        over.set(0, 3, 1, 3);
        over.set(2, 3, 1, OPEN);
        due("b is in both", over.small(0, 3, 0), 0);
        due("b is in both", over.small(1, 3, 0), 0);
        due("told by a alone", over.small(0, 3, 1), 3);
        due("a is not in the second", over.small(1, 3, 1), OPEN);
        says("small: NONE for others");
        int[][] no = {{2, 0, 0}, {-1, 0, 0}, {0, 4, 0}, {0, -1, 0}, {0, 0, 2}, {0, 0, -1}, {2, 0, 1}, {5, 0, 0}};
        for (int[] n : no) {
            due("small of none", over.small(n[0], n[1], n[2]), NONE);
        }
        for (int wild : WILD) {
            due("small", over.small(wild, 0, 0), NONE);
            due("small", over.small(0, wild, 0), NONE);
            due("small", over.small(0, 0, wild), NONE);
        }
        due("of no STATES", new StateMill().small(0, 0, 0), NONE);
        StateMill apart = mill(APART);
        due("the sixth", apart.small(5, 1, 1), 3);
        due("a seventh", apart.small(6, 1, 1), NONE);
    }

    private static void homeAndMet() {
        StateMill over = mill(OVERLAP);
        says("The CLASS of a STATE there: the first in which it is; NONE: no such STATE");
        int[] homes = {0, 0, 1};
        for (int state = 0; state < 3; state++) {
            due("home", over.home(state), homes[state]);
        }
        for (int state : new int[] {3, -1, 5, LOW, FAR}) {
            due("home(" + state + ")", over.home(state), NONE);
        }
        due("of no STATES", new StateMill().home(0), NONE);
        due("the sixth", mill(APART).home(5), 5);
        says("The CLASSES of the FEWEST with which a STATE is MET (bits); NONE: no such STATE");
        int[] met = {1, 3, 2};
        for (int state = 0; state < 3; state++) {
            due("met", over.met(state), met[state]);
        }
        for (int state : new int[] {3, -1, 5, LOW, FAR}) {
            due("met(" + state + ")", over.met(state), NONE);
        }
        due("of no STATES", new StateMill().met(0), NONE);
        due("the sixth", mill(APART).met(5), 32);
        due("all that are MET", over.count(13), 4);
    }

    private static void runs() {
        StateMill four = mill(TURNS.substring(0, 32) + "inputs 4;"
            + "move a 0 b 0;move a 3 d 3;move b 2 c open;move c 1 open 1;move d 3 a 2;");
        says("A word of n INPUTS (0 .. 8), as a number the n digits of four of which they are, the first the highest");
        due("no INPUT: the STATE", four.run(3, 0, 0, 1), 3);
        due("no INPUT: gone with", four.run(3, 0, 0, 0), 0);
        due("no INPUT: alike", four.run(3, 0, 0, 3), 0);
        due("no INPUT: told", four.run(3, 0, 0, 4), 0);
        for (int state = 0; state < 4; state++) {
            due("no INPUT: the SMALL machine's", four.run(state, 0, 0, 2), four.home(state));
        }
        due("0 2 from a: to b, to c", four.run(0, 2, 2, 1), 2);
        due("2 0 from a: ends at once", four.run(0, 8, 2, 1), 0);
        due("all eight INPUTS", four.run(0, 65535, 8, 0), 8);
        due("told", four.run(0, 65535, 8, 4), 8);
        due("alike", four.run(0, 65535, 8, 3), 8);
        due("back at a", four.run(0, 65535, 8, 1), 0);
        due("after seven at d", four.run(0, 16383, 7, 1), 3);
        says("if it is not, all ends there");
        due("0 2 1: gone with two", four.run(0, 2 * 4 + 1, 3, 0), 2);
        due("the last ANSWER is told all the same", four.run(0, 2 * 4 + 1, 3, 4), 2);
        due("0 2 1 1: it is told once", four.run(0, 2 * 16 + 5, 4, 4), 2);
        due("it ends at c", four.run(0, 2 * 16 + 5, 4, 1), 2);
        due("0 2: the second one's ANSWER is OPEN", four.run(0, 2, 2, 4), 1);
        due("and not alike", four.run(0, 2, 2, 3), 1);
        says("run: NONE: no such STATE");
        for (int state : new int[] {4, 5, 6, -1, LOW, FAR}) {
            due("run(" + state + ")", four.run(state, 0, 0, 0), NONE);
        }
        due("of no STATES", new StateMill().run(0, 0, 0, 0), NONE);
        says("run: NONE: no such n");
        for (int n : new int[] {-1, 9, 16, 17, 32, LOW, FAR}) {
            due("run by " + n, four.run(0, 0, n, 0), NONE);
        }
        says("run: NONE: no such word (a number below 0 or of more digits)");
        int power = 1;
        for (int n = 0; n <= 8; n++) {
            due("the greatest of " + n, four.run(0, power - 1, n, 0) >= 0, true);
            due("one of more digits than " + n, four.run(0, power, n, 0), NONE);
            due("far more", four.run(0, FAR, n, 0), NONE);
            due("below 0", four.run(0, -1, n, 0), NONE);
            due("far below 0", four.run(0, LOW, n, 0), NONE);
            power *= 4;
        }
        says("run: NONE: no such word (a digit that is no INPUT)");
        for (int inputs = 1; inputs <= 4; inputs++) {
            StateMill mill = mill("state a;inputs " + inputs + ";");
            for (int digit = 0; digit < 4; digit++) {
                for (int place = 0; place < 8; place++) {
                    due("digit " + digit, mill.run(0, digit << 2 * place, 8, 0), digit < inputs ? 0 : NONE);
                }
            }
        }
        says("run: NONE: no such what");
        for (int what : new int[] {-1, 5, 6, LOW, FAR}) {
            due("run what " + what, four.run(0, 0, 1, what), NONE);
        }
    }

    // ---- Promises 22 to 30

    private static int digitAt(int number, int size, int place) {
        int digits = number;
        for (int k = size - 1; k > place; k--) {
            digits /= 10;
        }
        return digits % 10;
    }

    /** Each digit is one of those ahead of it, or one more than the highest of them. */
    private static boolean isNumber(int number, int size) {
        int high = 0;
        int power = 1;
        for (int place = 0; place < size; place++) {
            int digit = digitAt(number, size, place);
            if (digit > high) {
                return false;
            }
            high = Math.max(high, digit + 1);
            power *= 10;
        }
        return size > 0 && number < power;
    }

    private static void partitionNumbers() {
        says("goesOn: NONE: no PARTITION has this number");
        int[] many = {0, 1, 2, 5, 15, 52, 203};
        for (int size = 0; size <= 6; size++) {
            StateMill mill = null;
            int found = 0;
            for (int number = 0; number < 13000; number++) {
                mill = number % 400 == 0 ? mill(states(size)) : mill;
                boolean is = isNumber(number, size);
                due("goesOn(" + number + ") of " + size, mill.goesOn(number), is ? 1 : NONE);
                found += is ? 1 : 0;
            }
            due("how many", found, many[size]);
            due("all GO ON", mill.partition(NONE), many[size]);
            for (int number : new int[] {-1, -11, LOW, FAR, 13000, 100000, 110000, 1000000, 1012345, 10000000}) {
                due("goesOn(" + number + ")", mill.goesOn(number), NONE);
                due("into(" + number + ")", mill.into(number), NONE);
                due("tail(" + number + ")", mill.tail(number), NONE);
                due("part(" + number + ")", mill.part(number, 0, 0), NONE);
                due("series(" + number + ")", mill.series(number, 0, 0, 0, 0), NONE);
                due("beside(" + number + ")", mill.beside(number, 0, 0, 0, 0), NONE);
                due("beside(0, " + number + ")", mill.beside(0, number, 0, 0, 0), NONE);
            }
        }
        says("told as a number the digits of which are the BLOCKS (01022, that is 1022)");
        due("goesOn(1022)", mill(states(5)).goesOn(1022), 1);
        due("a BLOCK's number by its least STATE: 02011", mill(states(5)).goesOn(2011), NONE);
    }

    private static void partitions() {
        says("Whether a PARTITION GOES ON: 1, 0");
        StateMill turns = mill(TURNS);
        int[] going = {0, 11, 101, 110, 123};
        for (int number : going) {
            due("goesOn(" + number + ")", turns.goesOn(number), 1);
        }
        due("goesOn(1)", turns.goesOn(1), 0);
        due("goesOn(122)", turns.goesOn(122), 0);
        StateMill last = mill("state a;state b;state c;inputs 4;move a 3 a 0;move b 3 c 0;");
        due("by the last INPUT alone", last.goesOn(1), 0);
        last.set(1, 3, OPEN, 0);
        due("OPEN MOVES lead nowhere", last.goesOn(1), 1);
        says("partition: how many (i NONE; no STATES: 0), else the i-th; NONE: no such i");
        due("five", turns.partition(NONE), 5);
        for (int i = 0; i < 5; i++) {
            due("the least first", turns.partition(i), going[i]);
        }
        for (int i : new int[] {5, -2, LOW, FAR}) {
            due("no such i", turns.partition(i), NONE);
        }
        due("no STATES", new StateMill().partition(NONE), 0);
        due("no STATES", new StateMill().partition(0), NONE);
        due("one STATE", mill("state a;").partition(NONE), 1);
        due("one STATE", mill("state a;").partition(0), 0);
        StateMill six = mill(SIX);
        due("the last one", six.partition(202), 12345);
        due("one more", six.partition(203), NONE);
        says("PUT TOGETHER of two STATES (one and the same: all BLOCKS are of one); NONE: no such ones");
        for (int many = 1; many <= 6; many++) {
            StateMill mill = mill(states(many));
            for (int state = 0; state < many; state++) {
                due("one and the same", mill.together(state, state), 12345 / (int) Math.pow(10, 6 - many));
            }
            due("too large", mill.together(0, many), NONE);
            due("too large", mill.together(many, 0), NONE);
            due("too large twice", mill.together(many, many), NONE);
        }
        for (int wild : WILD) {
            due("together", six.together(wild, 0), NONE);
            due("together", six.together(0, wild), NONE);
        }
        due("-1", six.together(-1, 0), NONE);
        due("-1", six.together(0, -1), NONE);
        due("of no STATES", new StateMill().together(0, 0), NONE);
        due("a and b go on alone", six.together(0, 1), 1234);
        due("e and f", six.together(5, 4), 12344);
        due("a, e and f in one", mill(WHEELS).together(0, 4), 12300);
        due("b and c", mill(WHEELS).together(1, 2), 11234);
        due("the wheels by one another", mill(WHEELS).together(0, 1), 100);
    }

    private static void intoAndSplit() {
        StateMill turns = mill(TURNS);
        says("INTO of a PARTITION; NONE: no such one");
        due("of 0", turns.into(0), 0);
        due("of 123", turns.into(123), 123);
        due("of one that does not GO ON: a and b lead to a and b, c and d", turns.into(1 * 10 + 2), 11);
        due("nothing leads anywhere", mill(SIX).into(0), 12345);
        due("of no STATES", new StateMill().into(0), NONE);
        due("of one STATE", mill("state a;").into(0), 0);
        due("of one STATE", mill("state a;").into(1), NONE);
        due("a and b of three to c and a", mill("state a;state b;state c;move a 1 c 0;move b 1 a 0;").into(1), 10);
        says("SPLIT: what 0 the one, 1 the other, 2 their BLOCKS, added; -2: there are none. NONE for others");
        due("the one", turns.split(0), 11);
        due("the other", turns.split(1), 101);
        due("their BLOCKS", turns.split(2), 4);
        for (int what : new int[] {-1, 3, -2, LOW, FAR}) {
            due("split(" + what + ")", turns.split(what), NONE);
            due("split(" + what + ") of none", new StateMill().split(what), NONE);
        }
        StateMill[] none = {
            new StateMill(), mill("state a;"), mill("state a;state b;"),
            mill("state a;state b;state c;inputs 1;move a 0 b 0;move b 0 c 0;move c 0 a 0;")
        };
        for (StateMill mill : none) {
            for (int what = 0; what < 3; what++) {
                due("there are none", mill.split(what), OPEN);
            }
        }
        says("each of fewer BLOCKS than there are STATES, and tell ALL");
        StateMill three = mill("state a;state b;state c;");
        due("the one", three.split(0), 1);
        due("the other: the least that parts a and b", three.split(1), 10);
        due("2 and 2", three.split(2), 4);
        says("of fewest BLOCKS, added, of alike ones those of which the first has the least number, then the second");
        StateMill five = mill(states(5));
        due("of 2 and 3, or 3 and 2", five.split(2), 5);
        due("00011", five.split(0), 11);
        due("01201", five.split(1), 1201);
        StateMill four = mill(states(4));
        due("2 and 2", four.split(2), 4);
        due("0011", four.split(0), 11);
        due("0101", four.split(1), 101);
    }

    private static void tails() {
        says("TAIL of a PARTITION; NONE: no such one, or it does not GO ON");
        StateMill turns = mill(TURNS);
        int[][] tails = {{0, 123}, {11, 101}, {101, 11}, {110, 11}, {123, 0}};
        for (int[] t : tails) {
            due("tail(" + t[0] + ")", turns.tail(t[0]), t[1]);
        }
        due("does not GO ON", turns.tail(1), NONE);
        due("does not GO ON", turns.tail(122), NONE);
        due("no such one", turns.tail(2), NONE);
        due("no such one", turns.tail(-1), NONE);
        due("of one STATE", mill("state a;").tail(0), 0);
        due("of no STATES", new StateMill().tail(0), NONE);
        says("whether it GOES ON or not, of alike ones the least number");
        StateMill chain = mill("state a;state b;state c;move a 0 b 0;move b 0 c 0;move c 0 c 1;");
        due("011 GOES ON", chain.goesOn(11), 1);
        due("its TAIL is 001", chain.tail(11), 1);
        due("which does not GO ON", chain.goesOn(1), 0);
        StateMill six = mill(SIX);
        due("of 000111: 012012", six.tail(111), 12012);
        due("of 012345: one BLOCK", six.tail(12345), 0);
        due("of one BLOCK: six", six.tail(0), 12345);
        due("of 001122: 010101", six.tail(1122), 10101);
    }

    private static void parts() {
        StateMill turns = mill(TURNS);
        says("The BLOCK to which a BLOCK goes by an INPUT in the PART of a PARTITION (-2: OPEN)");
        due("11 by 1", turns.part(11, 0, 1), 1);
        due("11 by 0", turns.part(11, 1, 0), 1);
        due("123 by 1", turns.part(123, 3, 1), 1);
        StateMill wheels = mill(WHEELS);
        due("d alone is OPEN", wheels.part(12345, 3, 0), OPEN);
        due("c to b", wheels.part(12345, 2, 0), 1);
        due("f to a", wheels.part(12345, 5, 0), 0);
        due("d with c", wheels.part(12245, 2, 0), NONE);
        due("d with c", wheels.part(12234, 2, 0), 1);
        says("part: NONE: no such ones, or it does not GO ON");
        int[][] no = {{11, 2, 0}, {11, -1, 0}, {11, 0, 2}, {11, 0, -1}, {1, 0, 0}, {2, 0, 0}, {-1, 0, 0}, {0, 1, 0}, {123, 4, 0}};
        for (int[] n : no) {
            due("part of none", turns.part(n[0], n[1], n[2]), NONE);
        }
        for (int wild : WILD) {
            due("part", turns.part(wild, 0, 0), NONE);
            due("part", turns.part(0, wild, 0), NONE);
            due("part", turns.part(0, 0, wild), NONE);
        }
        due("of no STATES", new StateMill().part(0, 0, 0), NONE);
    }

    private static void seriesOnes() {
        StateMill wheels = mill(WHEELS);
        says("series: what 0 the BLOCK to which the head goes in its PART (-2: OPEN)");
        // The head is a e f | b c | d: 0 1 1 2 0 0. The TAIL parts a, e, f: 0 0 1 0 1 2, of which a, b, d have BLOCK 0.
        due("the head", wheels.goesOn(11200), 1);
        due("its TAIL", wheels.tail(11200), 1012);
        due("a e f", wheels.series(11200, 0, 0, 0, 0), 0);
        due("b c", wheels.series(11200, 1, 2, 0, 0), 1);
        due("d is OPEN", wheels.series(11200, 2, 0, 0, 0), OPEN);
        says("series: 1 the TAIL's BLOCK of the STATE to which the one in both leads");
        due("a to e", wheels.series(11200, 0, 0, 0, 1), 1);
        due("e to f", wheels.series(11200, 0, 1, 0, 1), 2);
        due("f to a", wheels.series(11200, 0, 2, 0, 1), 0);
        due("b to c", wheels.series(11200, 1, 0, 0, 1), 1);
        due("c to b", wheels.series(11200, 1, 1, 0, 1), 0);
        says("(-2: none is in both, its MOVE is not TOLD)");
        due("none in both", wheels.series(11200, 1, 2, 0, 1), OPEN);
        due("none in both", wheels.series(11200, 2, 1, 0, 1), OPEN);
        due("d is OPEN", wheels.series(11200, 2, 0, 0, 1), OPEN);
        says("series: NONE: no such ones, or it does not GO ON");
        int[][] no = {
            {11200, 3, 0, 0, 0}, {11200, -1, 0, 0, 0}, {11200, 0, 3, 0, 0}, {11200, 0, -1, 0, 0}, {11200, 0, 0, 1, 0},
            {11200, 0, 0, -1, 0}, {11200, 0, 0, 0, 2}, {11200, 0, 0, 0, -1}, {11201, 0, 0, 0, 0}, {1, 0, 0, 0, 1},
            {-1, 0, 0, 0, 0}, {11100, 0, 0, 0, 9}, {0, 0, 6, 0, 0}, {0, 1, 0, 0, 0}, {12345, 0, 1, 0, 1}
        };
        for (int[] n : no) {
            due("series of none", wheels.series(n[0], n[1], n[2], n[3], n[4]), NONE);
        }
        due("one BLOCK ahead of six", wheels.series(0, 0, 5, 0, 1), 0);
        due("six ahead of one BLOCK", wheels.series(12345, 5, 0, 0, 1), 0);
        for (int wild : WILD) {
            due("series", wheels.series(wild, 0, 0, 0, 0), NONE);
            due("series", wheels.series(11200, wild, 0, 0, 0), NONE);
            due("series", wheels.series(11200, 0, wild, 0, 0), NONE);
            due("series", wheels.series(11200, 0, 0, wild, 0), NONE);
            due("series", wheels.series(11200, 0, 0, 0, wild), NONE);
        }
    }

    private static void besideOnes() {
        StateMill turns = mill(TURNS);
        says("beside: by a word as of run()");
        due("no INPUT", turns.beside(11, 101, 3, 0, 0), 8);
        due("1 0 from a", turns.beside(11, 101, 0, 4, 2), 8);
        due("eight times 1", turns.beside(11, 101, 1, 21845, 8), 2);
        int power = 1;
        for (int n = 0; n <= 8; n++) {
            due("more digits than " + n, turns.beside(11, 101, 0, power, n), NONE);
            due("below 0", turns.beside(11, 101, 0, -1, n), NONE);
            due("far", turns.beside(11, 101, 0, FAR, n), NONE);
            due("the greatest", turns.beside(11, 101, 0, (power - 1) / 3, n), n % 2 == 0 ? 1 : 4);
            power *= 4;
        }
        due("a digit that is no INPUT", turns.beside(11, 101, 0, 2, 1), NONE);
        due("a digit that is no INPUT", turns.beside(11, 101, 0, 3 << 14, 8), NONE);
        for (int n : new int[] {-1, 9, 16, 17, LOW, FAR}) {
            due("no such n", turns.beside(11, 101, 0, 0, n), NONE);
        }
        says("as far as both PARTS' MOVES are not OPEN");
        // d goes nowhere: its PART by 12345 is OPEN, by 12234 it goes with c.
        StateMill wheels = mill(WHEELS);
        due("both OPEN", wheels.beside(12345, 11200, 3, 0, 8), 8);
        due("the second is OPEN", wheels.beside(12234, 12345, 3, 0, 8), 8);
        due("the first is OPEN", wheels.beside(12345, 12234, 3, 0, 8), 8);
        due("neither is OPEN: c and d to b", wheels.beside(12234, 0, 3, 0, 1), 2);
        due("it goes on to the end", wheels.beside(12234, 0, 3, 0, 8), 4 + 8);
        says("the STATES that are in both BLOCKS at the end (bits)");
        due("a e f and a b d", wheels.beside(11200, 11200, 0, 0, 3), 1 + 16 + 32);
        // a is OPEN, but b leads its one BLOCK to d, and c its other one to e.
        StateMill none = mill("state a;state b;state c;state d;state e;inputs 1;move b 0 d 0;move c 0 e 0;");
        due("none in both", none.beside(123, 1023, 0, 0, 1), 0);
        due("and they stay there", none.beside(123, 1023, 0, 0, 8), 0);
        says("beside: NONE: no such ones, or one of the two does not GO ON");
        int[][] no = {{1, 101, 0}, {11, 1, 0}, {2, 11, 0}, {11, 2, 0}, {-1, 11, 0}, {11, -1, 0}, {11, 101, 4}, {11, 101, -1}};
        for (int[] n : no) {
            due("beside of none", turns.beside(n[0], n[1], n[2], 0, 0), NONE);
        }
        for (int wild : WILD) {
            due("beside", turns.beside(wild, 11, 0, 0, 0), NONE);
            due("beside", turns.beside(11, wild, 0, 0, 0), NONE);
            due("beside", turns.beside(11, 11, wild, 0, 0), NONE);
        }
        due("of no STATES", new StateMill().beside(0, 0, 0, 0, 0), NONE);
    }

    // ---- Promises 31 to 36, 39

    private static void bitsAndProper() {
        int[] bits = {0, 0, 1, 2, 2, 3, 3};
        for (int many = 0; many <= 6; many++) {
            StateMill mill = mill(states(many));
            int above = 1 << bits[many];
            says("BITS (1 STATE or none: 0; 2: 1; 3, 4: 2; 5, 6: 3)");
            due("BITS of " + many, mill.count(6), bits[many]);
            for (int bit = -1; bit < 5; bit++) {
                boolean is = bit >= 0 && bit < bits[many];
                due("hangs(" + bit + ") of " + many, mill.hangs(bit, 0), is ? 0 : NONE);
                due("cube(" + bit + ") of " + many, mill.cube(bit, 0, NONE), is ? 0 : NONE);
            }
            for (int code = -1; code < 10; code++) {
                due("coded(" + code + ") of " + many, mill.coded(code, 0), code >= 0 && code < above ? 0 : NONE);
            }
            says("Codes are PROPER if all are below 2 to the power of BITS and no two alike");
            due("their numbers are", mill.count(12), 1);
            if (many > 0) {
                int last = many - 1;
                mill.code(last, above - 1);
                due("the greatest is", mill.count(12), 1);
                due("above", mill.code(last, above) == above < 8 && mill.count(12) == (above < 8 ? 0 : 1), true);
                mill.code(last, above - 1);
                if (many > 1) {
                    mill.code(last, 0);
                    due("alike", mill.count(12), 0);
                    mill.code(0, above - 1);
                    due("no longer alike", mill.count(12), 1);
                }
            }
        }
    }

    private static void hanging() {
        StateMill turns = mill(TURNS);
        says("Of a next BIT (0 .. BITS less 1): what 0 how many BITS it hangs on, 1 the set of them. NONE for others");
        due("BIT 0 on itself", turns.hangs(0, 1), 1);
        due("BIT 1 on itself", turns.hangs(1, 1), 2);
        due("one", turns.hangs(1, 0), 1);
        int[][] no = {{-1, 0}, {2, 0}, {3, 0}, {0, 2}, {0, -1}, {LOW, 0}, {FAR, 0}, {0, LOW}, {0, FAR}};
        for (int[] n : no) {
            due("hangs of none", turns.hangs(n[0], n[1]), NONE);
        }
        says("hangs: -2: there is no such set; cost: -2: of some next BIT there is no such set");
        turns.code(1, 0);
        due("a and b are alike, which lead to c and d", turns.hangs(0, 0), OPEN);
        due("BIT 0", turns.hangs(0, 1), OPEN);
        due("BIT 1 on itself, all the same", turns.hangs(1, 1), 2);
        due("cost", turns.cost(), OPEN);
        turns.code(1, 4);
        due("4 is 0 in all BITS", turns.hangs(0, 0), OPEN);
        due("NONE for others, all the same", turns.hangs(0, 2), NONE);
        due("NONE for others, all the same", turns.hangs(2, 0), NONE);
        turns.code(1, 5);
        due("5 is 1 in all BITS", turns.hangs(0, 0), 1);
        due("codes that are not PROPER have a COST", turns.cost(), 2);
        says("the set of fewest BITS, of these the least number");
        StateMill none = mill("state a;state b;state c;state d;state e;inputs 1;move a 0 b 0;move b 0 b 0;move c 0 b 0;");
        for (int bit = 0; bit < 3; bit++) {
            due("all lead to one code: on none", none.hangs(bit, 0), 0);
            due("the set of none", none.hangs(bit, 1), 0);
        }
        due("cost", none.cost(), 0);
        // Of 0 and 7, which are unlike in all BITS, one leads to 0 and one to 1.
        StateMill any = mill("state a;state b;state c;state d;state e;inputs 1;code e 7;move a 0 a 0;move e 0 b 0;");
        due("on any one: the least", any.hangs(0, 1), 1);
        due("BIT 1 on none", any.hangs(1, 1), 0);
        due("cost", any.cost(), 1);
        any.code(4, 6);
        due("0 and 6 are alike in BIT 0", any.hangs(0, 1), 2);
        any.code(4, 4);
        due("0 and 4 are alike in BIT 1, too", any.hangs(0, 1), 4);
        due("cost", any.cost(), 1);
        StateMill six = mill(SIX + "inputs 1;");
        for (int bits = 0; bits < 8; bits++) {
            for (int state = 0; state < 6; state++) {
                six.set(state, 0, Integer.bitCount(state & bits) % 2, OPEN);
            }
            due("next BIT 0 is 1 for codes odd in these BITS", six.hangs(0, 1), bits);
            due("how many", six.hangs(0, 0), Integer.bitCount(bits));
            due("cost: the others hang on none", six.cost(), Integer.bitCount(bits));
        }
        says("by each INPUT by which both their MOVES are TOLD");
        StateMill open = mill("state a;state b;inputs 4;move a 3 a 0;move b 2 b 0;");
        due("never both", open.hangs(0, 0), 0);
        open.set(1, 3, 1, 0);
        due("both by the last INPUT", open.hangs(0, 0), 1);
        due("both by the last INPUT", open.hangs(0, 1), 1);
        says("COST: for all next BITS, added (no BITS: 0)");
        due("no STATES", new StateMill().cost(), 0);
        due("one STATE", mill("state a;move a 0 a 0;").cost(), 0);
        StateMill one = mill("state a;move a 0 a 0;code a 7;");
        due("one STATE whose code is above", one.cost(), 0);
        due("next BITS on two and one", mill("state a;state b;state c;inputs 1;move a 0 b 0;move b 0 c 0;move c 0 a 0;").cost(), 3);
    }

    private static void cubes() {
        StateMill turns = mill(TURNS);
        says("CUBES of a next BIT by an INPUT: how many (i NONE), else the number of the i-th; NONE: no such i");
        due("BIT 0 by 0: those without", turns.cube(0, 0, NONE), 1);
        due("0 and either", turns.cube(0, 0, 0), 6);
        due("either and 1", turns.cube(1, 0, 0), 5);
        for (int i : new int[] {1, 2, -2, LOW, FAR}) {
            due("no such i", turns.cube(0, 0, i), NONE);
        }
        says("cube: NONE: no such BIT, INPUT");
        for (int i : new int[] {NONE, 0, 99}) {
            due("BIT 2", turns.cube(2, 0, i), NONE);
            due("BIT -1", turns.cube(-1, 0, i), NONE);
            due("INPUT 2", turns.cube(0, 2, i), NONE);
            due("INPUT -1", turns.cube(0, -1, i), NONE);
        }
        for (int wild : WILD) {
            due("cube", turns.cube(wild, 0, 0), NONE);
            due("cube", turns.cube(0, wild, 0), NONE);
        }
        says("cube: -2: the codes are not PROPER (whatever i is)");
        turns.code(3, 0);
        for (int i : new int[] {NONE, 0, 1, -2, LOW, FAR}) {
            due("alike", turns.cube(0, 0, i), OPEN);
        }
        due("no such BIT comes first", turns.cube(2, 0, 0), NONE);
        due("no such INPUT comes first", turns.cube(0, 2, 0), NONE);
        turns.code(3, 4);
        due("above", turns.cube(1, 1, 0), OPEN);
        says("the fewest that hold the codes ..: none is wanted, or all are");
        StateMill all = mill(SIX + "inputs 2;code a 7;code b 6;move a 0 a 0;move b 0 a 0;move c 0 a 0;move d 0 a 0;move e 0 a 0;"
            + "move f 0 a 0;");
        due("all: one CUBE", all.cube(2, 0, NONE), 1);
        // 7, 6, 2, 3, 4, 5: the first number that holds all is that of the whole.
        due("of all codes: 222", all.cube(2, 0, 0), 26);
        due("none: no CUBE", all.cube(2, 1, NONE), 0);
        due("none: no CUBE", all.cube(2, 1, 0), NONE);
        says("by their numbers, the least first; of as few those of which the first one is least, then the second");
        // 0 3 4 are wanted (f's code), 1 2 5 are not: three by itself, 0 with 4 or not.
        StateMill cross = mill(SIX + "inputs 1;move a 0 b 0;move b 0 a 0;move c 0 a 0;move d 0 b 0;move e 0 b 0;move f 0 a 0;");
        due("two CUBES", cross.cube(0, 0, NONE), 2);
        due("011 is 4", cross.cube(0, 0, 0), 4);
        due("200 is 18", cross.cube(0, 0, 1), 18);
        due("no third", cross.cube(0, 0, 2), NONE);
        // 0 3 5 are wanted, 1 2 4 are not.
        StateMill three = mill(SIX + "inputs 1;move a 0 b 0;move b 0 a 0;move c 0 a 0;move d 0 b 0;move e 0 a 0;move f 0 b 0;");
        int[] due = {0, 4, 10};
        due("three CUBES", three.cube(0, 0, NONE), 3);
        for (int i = 0; i < 3; i++) {
            due("one code each, or with 7", three.cube(0, 0, i), due[i]);
        }
        due("BIT 2 is never wanted", three.cube(2, 0, NONE), 0);
    }

    private static boolean isIn(int code, int cube) {
        int digits = cube;
        for (int bit = 0; bit < 3; bit++) {
            if (digits % 3 != 2 && digits % 3 != (code >> bit & 1)) {
                return false;
            }
            digits /= 3;
        }
        return true;
    }

    /** The codes of STATES (bits) that a CUBE holds. */
    private static int heldBy(int cube, int many) {
        int held = 0;
        for (int code = 0; code < many; code++) {
            held |= isIn(code, cube) ? 1 << code : 0;
        }
        return held;
    }

    /** The first of all choices of CUBES, fewest first, that holds all of on and none of off. */
    private static int[] leastCubes(int on, int off, int many, int top) {
        for (int size = 0; size <= 3; size++) {
            for (int one = 0; one < (size > 0 ? top : 1); one++) {
                for (int two = one + 1; two < (size > 1 ? top : one + 2); two++) {
                    for (int three = two + 1; three < (size > 2 ? top : two + 2); three++) {
                        int held = (size > 0 ? heldBy(one, many) : 0) | (size > 1 ? heldBy(two, many) : 0)
                            | (size > 2 ? heldBy(three, many) : 0);
                        if ((on & ~held) == 0 && (held & off) == 0) {
                            return java.util.Arrays.copyOf(new int[] {one, two, three}, size);
                        }
                    }
                }
            }
        }
        return new int[0];
    }

    /** Each STATE's MOVE, whose number is its code, is OPEN, or leads to a code with the BIT, or to one without. */
    private static void allCubes() {
        int[] bits = {0, 0, 1, 2, 2, 3, 3};
        says("A CUBE tells of each of BITS 0, 1 or 2 (either); its number has these as digits of three; the fewest ..");
        for (int many = 2; many <= 6; many++) {
            int top = (int) Math.pow(3, bits[many]);
            for (int bit = 0; bit < bits[many]; bit++) {
                StateMill mill = null;
                for (int ways = 0; ways < Math.pow(3, many); ways++) {
                    mill = ways % 20 == 0 ? mill(states(many) + "inputs 1;") : mill;
                    int on = 0;
                    int off = 0;
                    for (int state = 0, rest = ways; state < many; state++, rest /= 3) {
                        int to = rest % 3 == 0 ? OPEN : rest % 3 == 1 ? 0 : 1 << bit;
                        mill.set(state, 0, to, OPEN);
                        on |= to > 0 ? 1 << state : 0;
                        off |= to == 0 ? 1 << state : 0;
                    }
                    oneWay(mill, bit, leastCubes(on, off, many, top), on + " and not " + off + " of " + many, bits[many]);
                }
            }
        }
    }

    private static void oneWay(StateMill mill, int bit, int[] cubes, String codes, int bits) {
        due("how many CUBES of " + codes, mill.cube(bit, 0, NONE), cubes.length);
        for (int i = 0; i < cubes.length; i++) {
            due("CUBE " + i + " of " + codes, mill.cube(bit, 0, i), cubes[i]);
        }
        due("one more of " + codes, mill.cube(bit, 0, cubes.length), NONE);
        due("SUM of " + codes, mill.sum(), cubes.length);
        for (int code = 0; code < 1 << bits; code++) {
            int next = 0;
            for (int cube : cubes) {
                next |= isIn(code, cube) ? 1 << bit : 0;
            }
            due("coded(" + code + ") of " + codes, mill.coded(code, 0), next);
        }
    }

    private static void nextCodes() {
        says("leads to a code with that BIT: each code, also those above the numbers of STATES");
        for (int code = 0; code < 8; code++) {
            StateMill mill = mill(SIX + "inputs 1;");
            mill.code(code, 6);
            mill.code(0, code);
            for (int state = 0; state < 6; state++) {
                mill.set(state, 0, 0, OPEN);
            }
            due("PROPER", mill.count(12), 1);
            for (int bit = 0; bit < 3; bit++) {
                int wanted = code >> bit & 1;
                due("CUBES of BIT " + bit + " to " + code, mill.cube(bit, 0, NONE), wanted);
                due("only the whole holds six codes", mill.cube(bit, 0, 0), wanted == 1 ? 26 : NONE);
            }
            for (int from = 0; from < 8; from++) {
                due("coded(" + from + ") to " + code, mill.coded(from, 0), code);
            }
            due("SUM to " + code, mill.sum(), Integer.bitCount(code));
        }
    }

    private static void sumAndCoded() {
        StateMill turns = mill(TURNS);
        says("SUM of the codes as they are; -2: they are not PROPER");
        due("sum", turns.sum(), 4);
        due("no STATES", new StateMill().sum(), 0);
        due("one STATE", mill("state a;move a 0 a 0;").sum(), 0);
        says("coded: NONE: no such ones");
        due("the greatest code", turns.coded(3, 0), 2);
        due("above", turns.coded(4, 0), NONE);
        due("below", turns.coded(-1, 0), NONE);
        due("INPUT 2", turns.coded(0, 2), NONE);
        due("INPUT -1", turns.coded(0, -1), NONE);
        for (int wild : WILD) {
            due("coded", turns.coded(wild, 0), NONE);
            due("coded", turns.coded(0, wild), NONE);
        }
        says("a STATE's or not");
        StateMill three = mill("state a;state b;state c;inputs 1;move a 0 d 0;state d;move b 0 d 0;move c 0 d 0;");
        due("d's MOVE is OPEN", three.coded(3, 0), 3);
        StateMill five = mill(states(5) + "inputs 1;move e 0 b 0;move a 0 a 0;");
        due("4 leads to 1", five.coded(4, 0), 1);
        due("0 leads to 0", five.coded(0, 0), 0);
        due("the least CUBE that holds 4 and not 0 does not hold 7", five.coded(7, 0), 0);
        says("(no BITS: 0)");
        due("no STATES", new StateMill().coded(0, 0), 0);
        due("no STATES", new StateMill().coded(0, 1), 0);
        due("no STATES", new StateMill().coded(1, 0), NONE);
        due("one STATE", mill("state a;move a 0 a 0;").coded(0, 0), 0);
        due("one STATE", mill("state a;").coded(1, 0), NONE);
        says("sum and coded: -2: the codes are not PROPER");
        turns.code(0, 1);
        due("sum", turns.sum(), OPEN);
        due("coded", turns.coded(0, 0), OPEN);
        due("coded of none comes first", turns.coded(4, 0), NONE);
        due("coded by none comes first", turns.coded(0, 2), NONE);
        turns.code(0, 7);
        due("sum", turns.sum(), OPEN);
        due("coded", turns.coded(0, 1), OPEN);
        StateMill one = mill("state a;code a 1;");
        due("one STATE whose code is 1", one.sum(), OPEN);
        due("one STATE whose code is 1", one.coded(0, 0), OPEN);
    }

    private static void best() {
        says("BEST: its COST or SUM (state NONE; no STATES: 0)");
        for (int by = 0; by < 2; by++) {
            due("no STATES", new StateMill().best(by, NONE), 0);
            due("no STATES", new StateMill().best(by, 0), NONE);
            due("one STATE", mill("state a;code a 7;").best(by, NONE), 0);
            due("one STATE", mill("state a;code a 7;").best(by, 0), 0);
            for (int many = 1; many <= 6; many++) {
                StateMill mill = mill(states(many));
                due("nothing is told", mill.best(by, NONE), 0);
                for (int state = 0; state < many; state++) {
                    due("of alike ones STATE 0's is least, then STATE 1's, and so on", mill.best(by, state), state);
                }
                due("no such STATE", mill.best(by, many), NONE);
                due("no such STATE", mill.best(by, -2), NONE);
                due("no such STATE", mill.best(by, LOW), NONE);
                due("no such STATE", mill.best(by, FAR), NONE);
            }
        }
        says("BEST by 0 COST, 1 SUM; NONE: no such ones");
        StateMill turns = mill(TURNS);
        for (int by : new int[] {-1, 2, -2, LOW, FAR}) {
            due("best(" + by + ", NONE)", turns.best(by, NONE), NONE);
            due("best(" + by + ", 0)", turns.best(by, 0), NONE);
        }
        says("of all PROPER codes those by which it is least");
        due("by COST", turns.best(0, NONE), 2);
        due("by SUM", turns.best(1, NONE), 4);
        turns.code(0, 7);
        turns.code(1, 7);
        due("whatever the codes are", turns.best(0, NONE), 2);
        due("whatever the codes are", turns.best(1, NONE), 4);
        for (int state = 0; state < 4; state++) {
            due("by COST", turns.best(0, state), state);
            due("by SUM", turns.best(1, state), state);
        }
        says("BEST is of the MOVES as they are");
        StateMill ring = mill("state a;state b;state c;inputs 1;move a 0 b 0;move b 0 c 0;move c 0 a 0;");
        due("one next BIT on the other, this one on both", ring.best(0, NONE), 3);
        due("each BIT wants a CUBE", ring.best(1, NONE), 2);
        ring.set(2, 0, OPEN, OPEN);
        ring.set(1, 0, OPEN, OPEN);
        due("one MOVE hangs on nothing", ring.best(0, NONE), 0);
        due("one MOVE to code 0 wants no CUBE", ring.best(1, NONE), 0);
        due("so b has code 0", ring.best(1, 1), 0);
        due("and a 1", ring.best(1, 0), 1);
        due("undone", ring.undo() && ring.undo(), true);
        due("by SUM again", ring.best(1, NONE), 2);
    }

    /** All PROPER codes are set by hand, one after the other, the least of STATE 0 first. */
    private static void bestOfAll() {
        says("BEST by COST, by SUM: of all PROPER codes those by which it is least; of alike ones ..");
        String[] texts = {
            TURNS, WHEELS, "state a;state b;inputs 1;move a 0 b 0;move b 0 b 0;",
            "state a;state b;state c;inputs 1;move a 0 b 0;move b 0 c 0;move c 0 a 0;",
            "state a;state b;state c;move a 0 c 0;move b 0 c 0;move c 1 b 0;move a 1 a 0;",
            states(4) + "inputs 3;move a 0 d 0;move b 0 d 0;move c 0 a 0;move d 1 b 0;move b 1 b 0;move c 2 d 0;move a 2 b 0;",
            states(5) + "move a 0 b 0;move b 0 c 0;move c 0 a 0;move d 0 e 0;move a 1 e 0;move e 1 d 0;move c 1 a 0;",
            // By SUM STATE 0 has 3 here, or 7, and STATE 1 the code behind or ahead of STATE 2's.
            states(4) + "move b 0 d 0;move b 1 b 0;move c 1 c 0;move d 0 b 0;",
            states(4) + "move a 1 d 0;move b 0 d 0;move c 0 c 0;move c 1 b 0;",
            states(5) + "move a 0 b 0;move a 1 e 0;move b 0 d 0;move b 1 d 0;move c 0 a 0;move c 1 e 0;move d 0 c 0;"
                + "move d 1 e 0;move e 0 e 0;move e 1 e 0;",
            SIX + "inputs 1;move a 0 f 0;move b 0 b 0;move c 0 c 0;move d 0 c 0;move e 0 c 0;move f 0 e 0;",
            SIX + "inputs 1;move a 0 d 0;move c 0 c 0;move d 0 e 0;move e 0 f 0;move f 0 f 0;",
            SIX + "move a 0 d 0;move b 0 c 0;move c 0 b 0;move d 0 f 0;move e 0 b 0;move f 0 b 0;move b 1 e 0;move e 1 a 0;"
        };
        for (String text : texts) {
            for (int by = 0; by < 2; by++) {
                bestBy(text, by);
            }
        }
    }

    private static void bestBy(String text, int by) {
        StateMill mill = mill(text);
        int many = mill.count(0);
        int all = (int) Math.pow(8, many);
        int least = FAR;
        int codes = 0;
        int calls = 0;
        StateMill tried = mill(text);
        for (int number = 0; number < all; number++) {
            if (isProper(number, many, 1 << mill.count(6))) {
                if (calls > 400) {
                    tried = mill(text);
                    calls = 0;
                }
                for (int state = 0; state < many; state++) {
                    tried.code(state, codeIn(number, many, state));
                }
                calls += many + 1;
                int value = by == 0 ? tried.cost() : tried.sum();
                if (value < least) {
                    least = value;
                    codes = number;
                }
            }
        }
        due("BEST by " + by + " of <" + text + ">", mill.best(by, NONE), least);
        for (int state = 0; state < many; state++) {
            due("code of " + state + " by " + by + " of <" + text + ">", mill.best(by, state), codeIn(codes, many, state));
        }
    }

    /** STATE 0's code is the highest digit here, so that the least number is what the document wants of alike ones. */
    private static int codeIn(int number, int many, int state) {
        return number >> 3 * (many - 1 - state) & 7;
    }

    private static boolean isProper(int number, int many, int above) {
        int used = 0;
        for (int state = 0; state < many; state++) {
            int code = codeIn(number, many, state);
            if (code >= above || (used >> code & 1) == 1) {
                return false;
            }
            used |= 1 << code;
        }
        return true;
    }

    private static void counts() {
        says("count: NONE for others");
        StateMill mill = mill(WHEELS);
        for (int what : new int[] {-1, -2, 15, 16, LOW, FAR}) {
            due("count(" + what + ")", mill.count(what), NONE);
        }
        says("count: 4 how many two STATES are APART, 5 the greatest ROUND (-2: none are APART)");
        due("four", mill.count(4), 6);
        due("five", mill.count(5), 5);
        mill.set(3, 0, 2, OPEN);
        due("seven INPUTS", mill.count(5), 6);
        due("the most", mill(LONGEST).count(5), 14);
        due("all", mill(LONGEST).count(4), 15);
        for (String text : new String[] {"", "state a;", SIX}) {
            due("none", mill(text).count(4), 0);
            due("none", mill(text).count(5), OPEN);
        }
        due("by ANSWERS alone", mill(APART).count(5), 0);
        says("count: 2 MOVES that are not TOLD, 3 ANSWERS that are told");
        due("of all", mill(SIX + "inputs 4;").count(2), 24);
        due("none", mill(SIX + "inputs 4;").count(3), 0);
        StateMill full = mill("state a;inputs 4;move a 0 a 0;move a 1 a 1;move a 2 a 2;move a 3 a 3;");
        due("none", full.count(2), 0);
        due("of all", full.count(3), 4);
        says("count: 7 codes as they are (each times eight to the power of its STATE, added)");
        due("the greatest", mill(SIX + "code a 7;code b 7;code c 7;code d 7;code e 7;code f 7;").count(7), (1 << 18) - 1);
        due("the least", mill("state a;state b;code b 0;").count(7), 0);
        says("count: 8 bytes on the tape, 9 things that can be undone, 10 SLOTS that hold something");
        put(mill, "xyz");
        due("bytes", mill.count(8), 3);
        due("things", mill.count(9), 1);
        due("SLOTS", mill.count(10), 0);
        says("count: 11 STATES to which no MOVE of another one leads (bits)");
        due("all", mill(SIX).count(11), 63);
        due("to itself alone", mill("state a;state b;move a 0 a 0;move b 1 a 0;").count(11), 2);
        due("none", mill("state a;state b;inputs 4;move a 3 b 0;move b 3 a 0;").count(11), 0);
        due("one", mill("state a;move a 0 a 0;").count(11), 1);
        says("count: 12 whether the codes are PROPER (1, 0)");
        due("no STATES", new StateMill().count(12), 1);
        says("count: 13 all that are MET");
        due("no STATES", new StateMill().count(13), 0);
        due("one CLASS of six", mill(SIX).count(13), 6);
        says("count: 14 the least BLOCKS of a PARTITION that GOES ON, but one of one BLOCK (-2: there is none)");
        due("no STATES", new StateMill().count(14), OPEN);
        due("one STATE", mill("state a;").count(14), OPEN);
        due("two", mill("state a;state b;").count(14), 2);
        due("a ring of three", mill("state a;state b;state c;inputs 1;move a 0 b 0;move b 0 c 0;move c 0 a 0;").count(14), 3);
        due("a ring of five", mill(states(5) + "inputs 1;move a 0 b 0;move b 0 c 0;move c 0 d 0;move d 0 e 0;move e 0 a 0;").count(14), 5);
    }

    // ---- what was asked before does not stay

    /** What is reckoned from MOVES and codes, in some ninety calls. */
    private static String reckoned(StateMill mill) {
        StringBuilder seen = new StringBuilder(picture(mill, 14));
        for (int one = 0; one < 6; one++) {
            for (int other = 0; other < one; other++) {
                seen.append(mill.apart(one, other, 1)).append(':').append(mill.together(one, other)).append(' ');
            }
            seen.append(mill.fewest(one)).append(' ').append(mill.greatest(one)).append(' ').append(mill.home(one)).append(' ');
            seen.append(mill.best(0, one)).append(' ').append(mill.best(1, one)).append(' ');
        }
        seen.append(mill.shown(NONE)).append(' ').append(mill.shown(0)).append(' ').append(mill.shown(1)).append(' ');
        seen.append(mill.small(0, 0, 0)).append(' ').append(mill.partition(NONE)).append(' ').append(mill.partition(1)).append(' ');
        seen.append(mill.into(0)).append(' ').append(mill.split(0)).append(' ').append(mill.split(1)).append(' ');
        seen.append(mill.cost()).append(' ').append(mill.sum()).append(' ').append(mill.best(0, NONE)).append(' ');
        return seen.append(mill.best(1, NONE)).append(' ').append(mill.coded(1, 0)).toString();
    }

    /** All that count tells but what was done by hand, and what is held. */
    private static String picture(StateMill mill, int last) {
        StringBuilder seen = new StringBuilder();
        for (int what = 0; what <= last; what++) {
            if (what != 9 && what != 10) {
                seen.append(mill.count(what)).append(' ');
            }
        }
        return seen.toString();
    }

    private static void askedAgain() {
        String[] texts = {SIX, WHEELS, APART, TURNS, OVERLAP, LONGEST, "state a;", states(5)};
        for (String text : texts) {
            StateMill mill = mill(text);
            String ahead = reckoned(mill);
            mill.hold(2);
            says("what is asked again behind set, code is of the MOVES and codes as they are");
            mill.set(0, 0, 0, 3);
            mill.code(0, 1);
            String then = reckoned(mill);
            same("set", then, reckoned(mill(text + "move a 0 a 3;code a 1;")));
            says("likewise behind undo");
            due("undo", mill.undo() && mill.undo(), true);
            same("undo", reckoned(mill), ahead);
            says("likewise behind restore");
            mill.set(0, 0, 0, 3);
            mill.code(0, 1);
            same("set again", reckoned(mill), then);
            due("restore", mill.restore(2), true);
            same("restore", reckoned(mill), ahead);
        }
        for (String text : texts) {
            for (String next : texts) {
                says("likewise behind read");
                StateMill mill = mill(text);
                String ahead = reckoned(mill);
                put(mill, next + "?");
                due("a FAULT", mill.read(), 1);
                same("read with a FAULT", reckoned(mill), ahead);
                put(mill, next);
                due("none", mill.read(), 0);
                same("read", reckoned(mill), reckoned(mill(next)));
            }
        }
        says("FEWEST when CLASSES become fewer by hand");
        StateMill six = mill(SIX);
        due("one", six.fewest(NONE), 1);
        for (int state = 0; state < 6; state++) {
            six.set(state, 0, OPEN, state / 2);
            six.set(state, 1, OPEN, state % 2);
        }
        due("six", six.fewest(NONE), 6);
        due("the last one", six.fewest(5), 32);
        due("GREATEST", six.greatest(NONE), 6);
        due("all", six.classes(), 6);
    }
}
