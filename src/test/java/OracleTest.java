import java.util.ArrayDeque;
import java.util.ArrayList;
import java.util.Arrays;
import java.util.Collections;
import java.util.HashMap;
import java.util.HashSet;
import java.util.List;
import java.util.Map;
import java.util.Random;
import java.util.Set;
import java.util.TreeSet;

/**
 * Long runs of calls with arguments that are drawn, right ones and wrong ones, each answer held against that of Plain,
 * which is written from the document's words in the slowest way: by trying all words, all sets, all codes.
 */
public final class OracleTest {
    private static final int NONE = -1;
    private static final int OPEN = -2;
    private static final String[] CALLS = {
        "set", "code", "undo", "move", "apart", "word", "shown", "classes", "greatest", "fewest", "isClass", "leads",
        "small", "home", "met", "run", "goesOn", "together", "partition", "into", "split", "tail", "part", "series",
        "beside", "hangs", "cost", "cube", "sum", "coded", "best", "hold", "restore", "count", "place", "back", "feed"
    };

    private static int wrong;
    private static long asked;

    public static void main(String[] args) {
        int runs = args.length > 0 ? Integer.parseInt(args[0]) : 300;
        long seed = args.length > 1 ? Long.parseLong(args[1]) : 20261118L;
        Random random = new Random(seed);
        for (int run = 0; run < runs && wrong < 20; run++) {
            oneRun(random, run);
        }
        for (int run = 0; run < runs * 20 && wrong < 20; run++) {
            oneText(random, run, spoil(random, machineText(random, new Plain().drawShape(random))));
            oneText(random, run, crowd(random));
        }
        System.out.println(asked + " answers held against the plain ones, " + wrong + " wrong");
        if (wrong > 0) {
            System.exit(1);
        }
    }

    private static void due(String call, long got, long want) {
        asked++;
        if (got != want) {
            wrong++;
            System.out.println(call + " answered " + got + ", due is " + want);
        }
    }

    /** One text, and two drawn ones behind it. */
    private static void oneText(Random random, int run, String first) {
        StateMill mill = new StateMill();
        Plain plain = new Plain();
        for (int times = 0; times < 3; times++) {
            String text = times == 0 ? first : spoil(random, machineText(random, plain.drawShape(random)));
            feedText(mill, plain, text);
            String name = "text " + run + " <" + text + ">";
            due(name + " read", mill.read(), plain.read());
            due(name + " place", mill.place(), plain.place);
            for (int what : new int[] {0, 1, 2, 3, 7, 8, 9, 10}) {
                due(name + " count(" + what + ")", mill.count(what), plain.count(what));
            }
            for (int s = 0; s < 6; s++) {
                for (int x = 0; x < 4; x++) {
                    due(name + " move 0", mill.move(s, x, 0), plain.move(s, x, 0));
                    due(name + " move 1", mill.move(s, x, 1), plain.move(s, x, 1));
                }
            }
            mill.hold(0);
            plain.hold(0);
            due(name + " set", b(mill.set(0, 0, 0, 3)), b(plain.set(0, 0, 0, 3)));
        }
    }

    private static void oneRun(Random random, int run) {
        StateMill mill = new StateMill();
        Plain plain = new Plain();
        int calls = readAnew(random, mill, plain, "run " + run);
        int focus = random.nextInt(6);
        while (calls < 400 && wrong < 20) {
            String name = CALLS[random.nextInt(CALLS.length)];
            if (random.nextInt(12) == 0) {
                name = focus < 3 ? "set" : "code";
            }
            oneCall(random, mill, plain, name, "run " + run + " (" + calls + ") ");
            calls++;
            if (random.nextInt(80) == 0) {
                calls += readAnew(random, mill, plain, "run " + run + " (" + calls + ") anew");
            }
        }
    }

    /** What was reckoned of the text ahead must be gone then, also if the new one tells no STATES, or has a FAULT. */
    private static int readAnew(Random random, StateMill mill, Plain plain, String before) {
        int onTape = plain.count(8);
        due(before + " back", mill.back(onTape), plain.back(onTape));
        int kind = random.nextInt(8);
        String text = kind == 0 ? "" : machineText(random, plain.drawShape(random));
        int fed = feedText(mill, plain, kind == 1 ? spoil(random, text) : text);
        due(before + " read", mill.read(), plain.read());
        due(before + " place", mill.place(), plain.place);
        return fed + 3;
    }

    private static long b(boolean answer) {
        return answer ? 1 : 0;
    }

    /** How many calls it took. */
    private static int feedText(StateMill mill, Plain plain, String text) {
        StringBuilder padded = new StringBuilder(text);
        while (padded.length() % 20 != 0) {
            padded.append(' ');
        }
        for (int at = 0; at < padded.length(); at += 20) {
            int[] five = new int[5];
            for (int k = 0; k < 20; k++) {
                five[k / 4] = five[k / 4] << 8 | padded.charAt(at + k) & 255;
            }
            due("feed", mill.feed(five[0], five[1], five[2], five[3], five[4]),
                plain.feed(five[0], five[1], five[2], five[3], five[4]));
        }
        int more = padded.length() - text.length();
        due("back", mill.back(more), plain.back(more));
        return padded.length() / 20 + 1;
    }

    /** shape: states, inputs, percent of open moves, percent of open answers, how many answers. */
    private static String machineText(Random random, int[] shape) {
        StringBuilder text = new StringBuilder();
        String[] names = {"a", "bb", "state" + "s", "opened", "zzzzzzzz", "mov"};
        for (int s = 0; s < shape[0]; s++) {
            text.append("state ").append(names[s]).append("; ");
        }
        text.append("inputs").append(shape[1]).append(";");
        for (int s = 0; s < shape[0]; s++) {
            for (int x = 0; x < shape[1]; x++) {
                if (random.nextInt(30) > 0) {
                    String to = random.nextInt(100) < shape[2] ? "open" : names[random.nextInt(shape[0])];
                    String answer = random.nextInt(100) < shape[3] ? " open" : "0" + random.nextInt(shape[4]);
                    text.append("move ").append(names[s]).append(x).append(to).append(answer).append(";\n");
                }
            }
        }
        while (random.nextInt(3) == 0 && shape[0] > 0) {
            text.append("code ").append(names[random.nextInt(shape[0])]).append(random.nextInt(8)).append(";");
        }
        return text.toString();
    }

    /** Whole lines up to some number of TOKENS, often about as many as there may be, and something behind them. */
    private static String crowd(Random random) {
        String[] lines = {
            "code a 7;", "move a 0 b 1;", "move b 1 open open;", "inputs 1;", "inputs 4;", "code b 2;", "state a;",
            "inputs 5;", "move z 0 a 0;", "move a 3 a 3;", "code z 9;", "state g;"
        };
        int[] sizes = {4, 6, 6, 3, 3, 4, 3, 3, 6, 6, 4, 3};
        String[] behind = {
            "", " ", "state", "state g", "state g;", "inputs", "inputs 2", "inputs 2;", "x", "9", ";", "#", "code a 1",
            "code a 12345", "move a 0 b", "state g;state h;state i;state j;", "abcdefghi"
        };
        int most = random.nextInt(4) == 0 ? random.nextInt(400) : 396 + random.nextInt(7);
        int wrongOnes = random.nextInt(3) == 0 ? lines.length : 6;
        StringBuilder made = new StringBuilder("state a;state b;");
        int tokens = 6;
        for (int turn = 0; turn < 400; turn++) {
            int pick = random.nextInt(wrongOnes);
            if (tokens + sizes[pick] <= most && made.length() < 1950) {
                made.append(lines[pick]);
                tokens += sizes[pick];
            }
        }
        return made.append(behind[random.nextInt(behind.length)]).toString();
    }

    private static String spoil(Random random, String text) {
        String[] bits = {
            "state ", "state a;", "state abcdefgh;", "state abcdefghi;", "inputs 3;", "inputs 0;", "inputs 5;", ";",
            "open", "move a 0 a 0;", "move a 3 open open;", "move q 0 a 1;", "code a 7;", "code a 8;", "0004", "00004",
            "x", "A", "\t", "\r", "\n", " ", "code", "(", "" + (char) 225, "move a 1 bb 4;", "move bb 0 r 1;", "\0",
            "state q; state r; state t; state u; state v; state w;", "inputs 1;inputs 9;"
        };
        StringBuilder made = new StringBuilder(text);
        int times = random.nextInt(4);
        for (int k = 0; k < times; k++) {
            int at = random.nextInt(made.length() + 1);
            if (random.nextInt(3) == 0 && at < made.length()) {
                made.deleteCharAt(at);
            } else {
                made.insert(at, bits[random.nextInt(bits.length)]);
            }
        }
        if (random.nextInt(12) == 0) {
            int many = 96 + random.nextInt(8);
            for (int k = 0; k < many; k++) {
                made.append("code a").append(k % 8).append(";");
            }
        }
        if (random.nextInt(6) == 0) {
            made.setLength(random.nextInt(made.length() + 1));
        }
        if (made.length() > 1990) {
            made.setLength(1990);
        }
        return made.toString();
    }

    private static void oneCall(Random random, StateMill mill, Plain plain, String name, String before) {
        int s = draw(random, -1, plain.states);
        int t = draw(random, -1, plain.states);
        int x = draw(random, -1, plain.inputs);
        int w = draw(random, -1, 2);
        int i = draw(random, -2, 6);
        int p = plain.drawPartition(random);
        int p2 = plain.drawPartition(random);
        int n = draw(random, -1, 9);
        int word = plain.drawWord(random, n);
        switch (name) {
            case "set": {
                int to = draw(random, -2, plain.states);
                int answer = draw(random, -2, 4);
                due(before + "set(" + s + "," + x + "," + to + "," + answer + ")",
                    b(mill.set(s, x, to, answer)), b(plain.set(s, x, to, answer)));
                break;
            }
            case "code": {
                int code = draw(random, -1, 8);
                due(before + "code(" + s + "," + code + ")", b(mill.code(s, code)), b(plain.code(s, code)));
                break;
            }
            case "undo": due(before + "undo", b(mill.undo()), b(plain.undo())); break;
            case "move": due(before + "move", mill.move(s, x, w), plain.move(s, x, w)); break;
            case "apart": due(before + "apart", mill.apart(s, t, w), plain.apart(s, t, w)); break;
            case "word": due(before + "word", mill.word(s, t, i), plain.word(s, t, i)); break;
            case "shown": due(before + "shown", mill.shown(i), plain.shown(i)); break;
            case "classes": due(before + "classes", mill.classes(), plain.classes()); break;
            case "greatest": due(before + "greatest", mill.greatest(i), plain.greatest(i)); break;
            case "fewest": due(before + "fewest", mill.fewest(i), plain.fewest(i)); break;
            case "isClass": {
                int set = draw(random, -1, 1 << plain.states);
                due(before + "isClass", mill.isClass(set), plain.isClass(set));
                break;
            }
            case "leads": {
                int set = draw(random, -1, 1 << plain.states);
                due(before + "leads", mill.leads(set, x), plain.leads(set, x));
                break;
            }
            case "small": due(before + "small", mill.small(s, x, w), plain.small(s, x, w)); break;
            case "home": due(before + "home", mill.home(s), plain.home(s)); break;
            case "met": due(before + "met", mill.met(s), plain.met(s)); break;
            case "run": {
                int what = draw(random, -1, 5);
                due(before + "run(" + s + "," + word + "," + n + "," + what + ")",
                    mill.run(s, word, n, what), plain.run(s, word, n, what));
                break;
            }
            case "goesOn": due(before + "goesOn", mill.goesOn(p), plain.goesOn(p)); break;
            case "together": due(before + "together", mill.together(s, t), plain.together(s, t)); break;
            case "partition": {
                int at = draw(random, -2, plain.partition(NONE));
                due(before + "partition", mill.partition(at), plain.partition(at));
                break;
            }
            case "into": due(before + "into", mill.into(p), plain.into(p)); break;
            case "split": {
                int what = draw(random, -1, 3);
                due(before + "split", mill.split(what), plain.split(what));
                break;
            }
            case "tail": due(before + "tail", mill.tail(p), plain.tail(p)); break;
            case "part": due(before + "part", mill.part(p, s, x), plain.part(p, s, x)); break;
            case "series": due(before + "series(" + p + "," + s + "," + t + "," + x + "," + w + ")",
                mill.series(p, s, t, x, w), plain.series(p, s, t, x, w)); break;
            case "beside": due(before + "beside(" + p + "," + p2 + "," + s + "," + word + "," + n + ")",
                mill.beside(p, p2, s, word, n), plain.beside(p, p2, s, word, n)); break;
            default: laterCall(random, mill, plain, name, before); break;
        }
    }

    private static void laterCall(Random random, StateMill mill, Plain plain, String name, String before) {
        int s = draw(random, -1, plain.states);
        int x = draw(random, -1, plain.inputs);
        int w = draw(random, -1, 2);
        int i = draw(random, -2, 3);
        int bit = draw(random, -1, 3);
        switch (name) {
            case "hangs": due(before + "hangs", mill.hangs(bit, w), plain.hangs(bit, w)); break;
            case "cost": due(before + "cost", mill.cost(), plain.cost()); break;
            case "cube": due(before + "cube(" + bit + "," + x + "," + i + ")",
                mill.cube(bit, x, i), plain.cube(bit, x, i)); break;
            case "sum": due(before + "sum", mill.sum(), plain.sum()); break;
            case "coded": {
                int code = draw(random, -1, 8);
                due(before + "coded(" + code + "," + x + ")", mill.coded(code, x), plain.coded(code, x));
                break;
            }
            case "best": due(before + "best(" + w + "," + s + ")", mill.best(w, s), plain.best(w, s)); break;
            case "hold": {
                int slot = draw(random, -1, 3);
                due(before + "hold", b(mill.hold(slot)), b(plain.hold(slot)));
                break;
            }
            case "restore": {
                int slot = draw(random, -1, 3);
                if (random.nextInt(3) == 0) {
                    due(before + "restore", b(mill.restore(slot)), b(plain.restore(slot)));
                }
                break;
            }
            case "place": due(before + "place", mill.place(), plain.place); break;
            case "back": {
                int many = draw(random, -1, 30);
                due(before + "back(" + many + ")", mill.back(many), plain.back(many));
                break;
            }
            case "feed": due(before + "feed", mill.feed(1, 2, 3, 4, 5), plain.feed(1, 2, 3, 4, 5)); break;
            default: {
                int what = draw(random, -1, 15);
                due(before + "count(" + what + ")", mill.count(what), plain.count(what));
            }
        }
    }

    private static int draw(Random random, int low, int high) {
        if (random.nextInt(60) == 0) {
            return random.nextInt();
        }
        return low + random.nextInt(high - low + 1);
    }

    /** The document's words, done the slow way. */
    private static final class Plain {
        int states;
        int inputs = 2;
        int place = NONE;
        private int[][] to = new int[0][];
        private int[][] answer = new int[0][];
        private int[] codes = new int[0];
        private final List<Integer> tape = new ArrayList<>();
        private final List<int[]> deeds = new ArrayList<>();
        private final Object[][] slots = new Object[3][];
        private final Map<String, List<Integer>> memo = new HashMap<>();

        int[] drawShape(Random random) {
            int n = random.nextInt(3) == 0 ? random.nextInt(7) : 3 + random.nextInt(4);
            int[] opens = {0, 10, 30, 60, 90};
            return new int[] {n, 1 + random.nextInt(4), opens[random.nextInt(5)], opens[random.nextInt(5)],
                1 + random.nextInt(3)};
        }

        int drawPartition(Random random) {
            List<Integer> all = random.nextInt(3) == 0 ? allPartitions() : going();
            if (all.isEmpty() || random.nextInt(20) == 0) {
                return random.nextInt(3) == 0 ? 0 : random.nextInt(15000) - 10;
            }
            return all.get(random.nextInt(all.size()));
        }

        int drawWord(Random random, int n) {
            int word = 0;
            for (int k = 0; k < n && k < 9; k++) {
                word = word * 4 + random.nextInt(inputs);
            }
            int off = random.nextInt(30);
            return off == 0 ? random.nextInt() : off == 1 ? word + 3 : off == 2 ? word * 4 + 4 : word;
        }

        // ---- the tape

        int feed(int... five) {
            if (tape.size() + 20 > 2000) {
                return NONE;
            }
            for (int four : five) {
                for (int k = 3; k >= 0; k--) {
                    tape.add(four >>> 8 * k & 255);
                }
            }
            return tape.size();
        }

        int back(int n) {
            if (n < 0 || n > tape.size()) {
                return NONE;
            }
            for (int k = 0; k < n; k++) {
                tape.remove(tape.size() - 1);
            }
            return tape.size();
        }

        private record Token(String word, int at, boolean known) { }

        private List<Token> cut() {
            List<Token> found = new ArrayList<>();
            StringBuilder text = new StringBuilder();
            for (int one : tape) {
                text.append((char) one);
            }
            java.util.regex.Matcher matcher =
                java.util.regex.Pattern.compile("[a-z]+|[0-9]+|;|[^ \\t\\n\\r]", java.util.regex.Pattern.DOTALL).matcher(text);
            while (matcher.find()) {
                String word = matcher.group();
                found.add(new Token(word, matcher.start(), word.matches("[a-z]{1,8}|[0-9]{1,4}|;")));
            }
            return found;
        }

        private static final String NAME = "(?!(state|inputs|move|open|code)$)[a-z]{1,8}";
        private static final String INT = "[0-9]{1,4}";

        private static String[][] lineForms() {
            return new String[][] {
                {"state", NAME, ";"}, {"inputs", INT, ";"},
                {"move", NAME, INT, "open|" + NAME, "open|" + INT, ";"}, {"code", NAME, INT, ";"}
            };
        }

        int read() {
            int fault = readText();
            tape.clear();
            return fault;
        }

        private int fail(int number, int at) {
            place = at;
            return number;
        }

        private int readText() {
            List<Token> found = cut();
            List<List<Token>> lines = new ArrayList<>();
            List<Token> line = new ArrayList<>();
            int seen = 0;
            int stateLines = 0;
            for (Token token : found) {
                line.add(token);
                if (!token.known() || !fitsSomeForm(line)) {
                    return fail(1, token.at());
                }
                seen++;
                if (line.size() == 1 && token.word().equals("state")) {
                    stateLines++;
                    if (stateLines == 7) {
                        return fail(2, token.at());
                    }
                }
                if (seen == 401) {
                    return fail(2, token.at());
                }
                if (token.word().equals(";")) {
                    lines.add(line);
                    line = new ArrayList<>();
                }
            }
            if (!line.isEmpty()) {
                return fail(1, tape.size());
            }
            return understand(lines);
        }

        private static boolean fitsSomeForm(List<Token> line) {
            for (String[] form : lineForms()) {
                boolean fits = line.size() <= form.length;
                for (int k = 0; k < line.size() && fits; k++) {
                    fits = line.get(k).word().matches(form[k]);
                }
                if (fits) {
                    return true;
                }
            }
            return false;
        }

        private int understand(List<List<Token>> lines) {
            List<String> names = new ArrayList<>();
            int many = 2;
            for (List<Token> line : lines) {
                if (line.get(0).word().equals("state")) {
                    names.add(line.get(1).word());
                }
                if (line.get(0).word().equals("inputs")) {
                    int value = Integer.parseInt(line.get(1).word());
                    many = value >= 1 && value <= 4 ? value : many;
                }
            }
            Set<String> before = new HashSet<>();
            for (List<Token> line : lines) {
                String first = line.get(0).word();
                for (int k = 1; k < line.size() - 1; k++) {
                    String word = line.get(k).word();
                    int at = line.get(k).at();
                    boolean number = Character.isDigit(word.charAt(0));
                    int value = number ? Integer.parseInt(word) : 0;
                    if (first.equals("state") && !before.add(word)) {
                        return fail(3, at);
                    }
                    if (!number && !first.equals("state") && !word.equals("open") && !names.contains(word)) {
                        return fail(4, at);
                    }
                    boolean bad = first.equals("inputs") ? value < 1 || value > 4
                        : first.equals("code") ? value > 7
                        : first.equals("move") && (k == 2 ? value >= many : value > 3);
                    if (number && bad) {
                        return fail(5, at);
                    }
                }
            }
            take(lines, names, many);
            place = NONE;
            return 0;
        }

        private void take(List<List<Token>> lines, List<String> names, int many) {
            states = names.size();
            inputs = many;
            to = new int[states][inputs];
            answer = new int[states][inputs];
            codes = new int[states];
            for (int s = 0; s < states; s++) {
                codes[s] = s;
                Arrays.fill(to[s], OPEN);
                Arrays.fill(answer[s], OPEN);
            }
            for (List<Token> line : lines) {
                String first = line.get(0).word();
                if (first.equals("code")) {
                    codes[names.indexOf(line.get(1).word())] = Integer.parseInt(line.get(2).word());
                } else if (first.equals("move")) {
                    int s = names.indexOf(line.get(1).word());
                    int x = Integer.parseInt(line.get(2).word());
                    String target = line.get(3).word();
                    String told = line.get(4).word();
                    to[s][x] = target.equals("open") ? OPEN : names.indexOf(target);
                    answer[s][x] = told.equals("open") ? OPEN : Integer.parseInt(told);
                }
            }
            deeds.clear();
            Arrays.fill(slots, null);
            memo.clear();
        }

        // ---- by hand

        private boolean isState(int s) {
            return 0 <= s && s < states;
        }

        private boolean isInput(int x) {
            return 0 <= x && x < inputs;
        }

        boolean set(int s, int x, int target, int told) {
            if (!isState(s) || !isInput(x) || !(target == OPEN || isState(target)) || told < -2 || told == -1 || told > 3) {
                return false;
            }
            if (to[s][x] == target && answer[s][x] == told) {
                return false;
            }
            deeds.add(new int[] {s, x, to[s][x], answer[s][x]});
            to[s][x] = target;
            answer[s][x] = told;
            memo.clear();
            return true;
        }

        boolean code(int s, int c) {
            if (!isState(s) || c < 0 || c > 7 || codes[s] == c) {
                return false;
            }
            deeds.add(new int[] {s, codes[s]});
            codes[s] = c;
            return true;
        }

        private int undoable() {
            while (deeds.size() > 40) {
                deeds.remove(0);
            }
            return deeds.size();
        }

        boolean undo() {
            if (undoable() == 0) {
                return false;
            }
            int[] deed = deeds.remove(deeds.size() - 1);
            if (deed.length == 2) {
                codes[deed[0]] = deed[1];
            } else {
                to[deed[0]][deed[1]] = deed[2];
                answer[deed[0]][deed[1]] = deed[3];
            }
            memo.clear();
            return true;
        }

        boolean hold(int slot) {
            if (slot < 0 || slot > 2) {
                return false;
            }
            slots[slot] = new Object[] {copy(to), copy(answer), codes.clone()};
            return true;
        }

        boolean restore(int slot) {
            if (slot < 0 || slot > 2 || slots[slot] == null) {
                return false;
            }
            to = copy((int[][]) slots[slot][0]);
            answer = copy((int[][]) slots[slot][1]);
            codes = ((int[]) slots[slot][2]).clone();
            deeds.clear();
            memo.clear();
            return true;
        }

        private static int[][] copy(int[][] rows) {
            int[][] made = rows.clone();
            for (int k = 0; k < made.length; k++) {
                made[k] = rows[k].clone();
            }
            return made;
        }

        int move(int s, int x, int what) {
            if (!isState(s) || !isInput(x) || what != 0 && what != 1) {
                return NONE;
            }
            return what == 0 ? to[s][x] : answer[s][x];
        }

        // ---- APART

        private boolean unlike(int s, int t, int x) {
            return answer[s][x] != OPEN && answer[t][x] != OPEN && answer[s][x] != answer[t][x];
        }

        /** Forward from the two, words in order: null if no word tells them apart. */
        private List<Integer> wordOf(int s, int t) {
            String key = "word" + s + "," + t;
            if (memo.containsKey(key)) {
                return memo.get(key);
            }
            ArrayDeque<int[]> places = new ArrayDeque<>();
            ArrayDeque<List<Integer>> words = new ArrayDeque<>();
            Set<Integer> been = new HashSet<>();
            places.add(new int[] {s, t});
            words.add(new ArrayList<>());
            List<Integer> result = null;
            while (!places.isEmpty() && result == null) {
                int[] two = places.poll();
                List<Integer> word = words.poll();
                for (int x = 0; x < inputs && result == null; x++) {
                    if (unlike(two[0], two[1], x)) {
                        result = with(word, x);
                    }
                }
                for (int x = 0; x < inputs && result == null; x++) {
                    int a = to[two[0]][x];
                    int c = to[two[1]][x];
                    if (a != OPEN && c != OPEN && been.add(a * 10 + c)) {
                        places.add(new int[] {a, c});
                        words.add(with(word, x));
                    }
                }
            }
            // Words of one length come in order, but one that goes on may be shorter than one found behind it: none is,
            // for the queue goes by length.
            memo.put(key, result);
            return result;
        }

        private static List<Integer> with(List<Integer> word, int x) {
            List<Integer> made = new ArrayList<>(word);
            made.add(x);
            return made;
        }

        private boolean areApart(int s, int t) {
            return wordOf(s, t) != null;
        }

        int apart(int s, int t, int what) {
            if (!isState(s) || !isState(t) || what != 0 && what != 1) {
                return NONE;
            }
            if (what == 0) {
                return areApart(s, t) ? 1 : 0;
            }
            return areApart(s, t) ? wordOf(s, t).size() - 1 : OPEN;
        }

        int word(int s, int t, int i) {
            if (!isState(s) || !isState(t)) {
                return NONE;
            }
            return wordOf(s, t) == null ? OPEN : ith(wordOf(s, t), i);
        }

        private static int ith(List<Integer> list, int i) {
            if (i == NONE) {
                return list.size();
            }
            return i >= 0 && i < list.size() ? list.get(i) : NONE;
        }

        private boolean tells(List<Integer> word, int s, int t) {
            int a = s;
            int c = t;
            for (int x : word) {
                if (unlike(a, c, x)) {
                    return true;
                }
                a = to[a][x];
                c = to[c][x];
                if (a == OPEN || c == OPEN) {
                    return false;
                }
            }
            return false;
        }

        private List<Integer> shownWord() {
            if (!memo.containsKey("shown")) {
                List<int[]> todo = new ArrayList<>();
                for (int s = 0; s < states; s++) {
                    for (int t = s + 1; t < states; t++) {
                        if (areApart(s, t)) {
                            todo.add(new int[] {s, t});
                        }
                    }
                }
                List<Integer> result = null;
                for (int size = 0; size <= 6 && result == null; size++) {
                    int many = (int) Math.round(Math.pow(inputs, size));
                    for (int number = 0; number < many && result == null; number++) {
                        List<Integer> word = digits(number, inputs, size);
                        boolean all = true;
                        for (int[] two : todo) {
                            all = all && tells(word, two[0], two[1]);
                        }
                        result = all ? word : null;
                    }
                }
                memo.put("shown", result);
            }
            return memo.get("shown");
        }

        private static List<Integer> digits(int number, int base, int size) {
            List<Integer> made = new ArrayList<>();
            for (int k = 0; k < size; k++) {
                made.add(0, number % base);
                number /= base;
            }
            return made;
        }

        int shown(int i) {
            return shownWord() == null ? OPEN : ith(shownWord(), i);
        }

        // ---- CLASSES

        private boolean isOne(int set) {
            for (int s = 0; s < states; s++) {
                for (int t = 0; t < states; t++) {
                    if ((set >> s & 1) == 1 && (set >> t & 1) == 1 && areApart(s, t)) {
                        return false;
                    }
                }
            }
            return set != 0;
        }

        private List<Integer> allClasses() {
            if (!memo.containsKey("classes")) {
                List<Integer> made = new ArrayList<>();
                for (int set = 1; set < 1 << states; set++) {
                    if (isOne(set)) {
                        made.add(set);
                    }
                }
                memo.put("classes", made);
            }
            return memo.get("classes");
        }

        int classes() {
            return allClasses().size();
        }

        int greatest(int i) {
            List<Integer> made = new ArrayList<>();
            for (int set : allClasses()) {
                boolean more = false;
                for (int other : allClasses()) {
                    more = more || other != set && (other & set) == set;
                }
                if (!more) {
                    made.add(set);
                }
            }
            return ith(made, i);
        }

        int isClass(int set) {
            if (set < 1 || set >= 1 << states) {
                return NONE;
            }
            return isOne(set) ? 1 : 0;
        }

        int leads(int set, int x) {
            if (set < 0 || set >= 1 << states || !isInput(x)) {
                return NONE;
            }
            int led = 0;
            for (int s = 0; s < states; s++) {
                if ((set >> s & 1) == 1 && to[s][x] != OPEN) {
                    led |= 1 << to[s][x];
                }
            }
            return led;
        }

        private List<Integer> fewestOnes() {
            if (!memo.containsKey("fewest")) {
                List<Integer> result = null;
                for (int size = 0; result == null; size++) {
                    result = firstCover(new ArrayList<>(), 0, size);
                }
                memo.put("fewest", result);
            }
            return memo.get("fewest");
        }

        private List<Integer> firstCover(List<Integer> taken, int from, int size) {
            if (taken.size() == size) {
                return isCover(taken) ? new ArrayList<>(taken) : null;
            }
            List<Integer> all = allClasses();
            for (int k = from; k < all.size(); k++) {
                taken.add(all.get(k));
                List<Integer> result = firstCover(taken, k + 1, size);
                taken.remove(taken.size() - 1);
                if (result != null) {
                    return result;
                }
            }
            return null;
        }

        private boolean isCover(List<Integer> taken) {
            int all = 0;
            for (int set : taken) {
                all |= set;
            }
            if (all != (1 << states) - 1) {
                return false;
            }
            for (int set : taken) {
                for (int x = 0; x < inputs; x++) {
                    int led = leads(set, x);
                    if (led != 0 && holder(taken, led) == NONE) {
                        return false;
                    }
                }
            }
            return true;
        }

        private static int holder(List<Integer> taken, int set) {
            for (int k = 0; k < taken.size(); k++) {
                if ((taken.get(k) | set) == taken.get(k)) {
                    return k;
                }
            }
            return NONE;
        }

        int fewest(int i) {
            return ith(fewestOnes(), i);
        }

        int small(int c, int x, int what) {
            List<Integer> own = fewestOnes();
            if (c < 0 || c >= own.size() || !isInput(x) || what != 0 && what != 1) {
                return NONE;
            }
            if (what == 0) {
                int led = leads(own.get(c), x);
                return led == 0 ? OPEN : holder(own, led);
            }
            for (int s = 0; s < states; s++) {
                if ((own.get(c) >> s & 1) == 1 && answer[s][x] != OPEN) {
                    return answer[s][x];
                }
            }
            return OPEN;
        }

        int home(int s) {
            return isState(s) ? holder(fewestOnes(), 1 << s) : NONE;
        }

        private Set<Integer> allMet() {
            Set<Integer> made = new TreeSet<>();
            for (int s = 0; s < states; s++) {
                for (int c = 0; c < fewestOnes().size(); c++) {
                    if ((fewestOnes().get(c) >> s & 1) == 1) {
                        made.add(s * 10 + c);
                    }
                }
            }
            for (int times = 0; times < 40; times++) {
                for (int two : new ArrayList<>(made)) {
                    for (int x = 0; x < inputs; x++) {
                        int s = to[two / 10][x];
                        int c = small(two % 10, x, 0);
                        if (s != OPEN && c != OPEN) {
                            made.add(s * 10 + c);
                        }
                    }
                }
            }
            return made;
        }

        int met(int s) {
            if (!isState(s)) {
                return NONE;
            }
            int bits = 0;
            for (int two : allMet()) {
                bits |= two / 10 == s ? 1 << two % 10 : 0;
            }
            return bits;
        }

        private boolean isWord(int word, int n) {
            if (n < 0 || n > 8 || word < 0 || word >= Math.pow(4, n)) {
                return false;
            }
            for (int x : digits(word, 4, n)) {
                if (!isInput(x)) {
                    return false;
                }
            }
            return true;
        }

        int run(int s, int word, int n, int what) {
            if (!isState(s) || !isWord(word, n) || what < 0 || what > 4) {
                return NONE;
            }
            int[] now = {0, s, home(s), 0, 0};
            for (int x : digits(word, 4, n)) {
                if (answer[now[1]][x] != OPEN) {
                    now[4]++;
                    now[3] += small(now[2], x, 1) == answer[now[1]][x] ? 1 : 0;
                }
                if (to[now[1]][x] == OPEN) {
                    break;
                }
                now[2] = small(now[2], x, 0);
                now[1] = to[now[1]][x];
                now[0]++;
            }
            return now[what];
        }

        // ---- PARTITIONS

        private List<Integer> allPartitions() {
            String key = "all";
            if (!memo.containsKey(key)) {
                List<Integer> made = new ArrayList<>();
                for (int number = 0; number <= 12345 && states > 0; number++) {
                    if (blocksOf(number) != null) {
                        made.add(number);
                    }
                }
                memo.put(key, made);
            }
            return memo.get(key);
        }

        /** The BLOCK of each STATE, or null if no PARTITION has this number. */
        private int[] blocksOf(int number) {
            if (states == 0 || number < 0 || number >= Math.pow(10, states)) {
                return null;
            }
            List<Integer> all = digits(number, 10, states);
            int next = 0;
            int[] made = new int[states];
            for (int s = 0; s < states; s++) {
                made[s] = all.get(s);
                if (made[s] > next) {
                    return null;
                }
                next = Math.max(next, made[s] + 1);
            }
            return made;
        }

        private static int blockCount(int[] blocks) {
            return Arrays.stream(blocks).max().orElse(-1) + 1;
        }

        private Set<Integer> blocksBehind(int[] from, int block, int x, int[] onto) {
            Set<Integer> made = new TreeSet<>();
            for (int s = 0; s < states; s++) {
                if (from[s] == block && to[s][x] != OPEN) {
                    made.add(onto[to[s][x]]);
                }
            }
            return made;
        }

        private boolean leadsInto(int[] from, int[] onto) {
            for (int block = 0; block < blockCount(from); block++) {
                for (int x = 0; x < inputs; x++) {
                    if (blocksBehind(from, block, x, onto).size() > 1) {
                        return false;
                    }
                }
            }
            return true;
        }

        int goesOn(int p) {
            int[] blocks = blocksOf(p);
            return blocks == null ? NONE : leadsInto(blocks, blocks) ? 1 : 0;
        }

        private List<Integer> going() {
            if (!memo.containsKey("going")) {
                List<Integer> made = new ArrayList<>();
                for (int p : allPartitions()) {
                    if (goesOn(p) == 1) {
                        made.add(p);
                    }
                }
                memo.put("going", made);
            }
            return memo.get("going");
        }

        int together(int s, int t) {
            if (!isState(s) || !isState(t)) {
                return NONE;
            }
            int[] mark = new int[states];
            for (int k = 0; k < states; k++) {
                mark[k] = k;
            }
            unite(mark, s, t);
            for (int times = 0; times < 40; times++) {
                for (int a = 0; a < states; a++) {
                    for (int c = 0; c < states; c++) {
                        for (int x = 0; x < inputs && mark[a] == mark[c]; x++) {
                            if (to[a][x] != OPEN && to[c][x] != OPEN) {
                                unite(mark, to[a][x], to[c][x]);
                            }
                        }
                    }
                }
            }
            return numberOf(mark);
        }

        private static void unite(int[] mark, int s, int t) {
            int gone = mark[t];
            int stays = mark[s];
            for (int k = 0; k < mark.length; k++) {
                mark[k] = mark[k] == gone ? stays : mark[k];
            }
        }

        private static int numberOf(int[] mark) {
            List<Integer> order = new ArrayList<>();
            int number = 0;
            for (int one : mark) {
                if (!order.contains(one)) {
                    order.add(one);
                }
                number = number * 10 + order.indexOf(one);
            }
            return number;
        }

        int partition(int i) {
            return ith(going(), i);
        }

        int into(int p) {
            int[] blocks = blocksOf(p);
            if (blocks == null) {
                return NONE;
            }
            int[] mark = new int[states];
            for (int k = 0; k < states; k++) {
                mark[k] = k;
            }
            for (int a = 0; a < states; a++) {
                for (int c = 0; c < states; c++) {
                    for (int x = 0; x < inputs; x++) {
                        if (blocks[a] == blocks[c] && to[a][x] != OPEN && to[c][x] != OPEN) {
                            unite(mark, to[a][x], to[c][x]);
                        }
                    }
                }
            }
            return numberOf(mark);
        }

        private boolean tellAll(int[] one, int[] other) {
            Set<Integer> made = new HashSet<>();
            for (int s = 0; s < states; s++) {
                made.add(one[s] * 10 + other[s]);
            }
            return made.size() == states;
        }

        int split(int what) {
            if (what < 0 || what > 2) {
                return NONE;
            }
            if (!memo.containsKey("split")) {
                List<Integer> made = List.of(OPEN, OPEN, OPEN);
                for (int one : going()) {
                    for (int other : going()) {
                        int[] a = blocksOf(one);
                        int[] c = blocksOf(other);
                        int sum = blockCount(a) + blockCount(c);
                        if (blockCount(a) < states && blockCount(c) < states && tellAll(a, c)
                            && (made.get(2) == OPEN || sum < made.get(2))) {
                            made = List.of(one, other, sum);
                        }
                    }
                }
                memo.put("split", made);
            }
            return memo.get("split").get(what);
        }

        int tail(int p) {
            if (goesOn(p) != 1) {
                return NONE;
            }
            for (int size = 1; size <= 6; size++) {
                for (int other : allPartitions()) {
                    if (blockCount(blocksOf(other)) == size && tellAll(blocksOf(p), blocksOf(other))) {
                        return other;
                    }
                }
            }
            return NONE;
        }

        int part(int p, int block, int x) {
            if (goesOn(p) != 1 || block < 0 || block >= blockCount(blocksOf(p)) || !isInput(x)) {
                return NONE;
            }
            Set<Integer> behind = blocksBehind(blocksOf(p), block, x, blocksOf(p));
            return behind.isEmpty() ? OPEN : behind.iterator().next();
        }

        int series(int p, int head, int tail, int x, int what) {
            if (part(p, head, x) == NONE || what != 0 && what != 1) {
                return NONE;
            }
            int[] front = blocksOf(p);
            int[] rear = blocksOf(tail(p));
            if (tail < 0 || tail >= blockCount(rear)) {
                return NONE;
            }
            if (what == 0) {
                return part(p, head, x);
            }
            for (int s = 0; s < states; s++) {
                if (front[s] == head && rear[s] == tail && to[s][x] != OPEN) {
                    return rear[to[s][x]];
                }
            }
            return OPEN;
        }

        int beside(int one, int other, int s, int word, int n) {
            if (goesOn(one) != 1 || goesOn(other) != 1 || !isState(s) || !isWord(word, n)) {
                return NONE;
            }
            int a = blocksOf(one)[s];
            int c = blocksOf(other)[s];
            for (int x : digits(word, 4, n)) {
                int nextA = part(one, a, x);
                int nextC = part(other, c, x);
                if (nextA == OPEN || nextC == OPEN) {
                    break;
                }
                a = nextA;
                c = nextC;
            }
            int both = 0;
            for (int k = 0; k < states; k++) {
                both |= blocksOf(one)[k] == a && blocksOf(other)[k] == c ? 1 << k : 0;
            }
            return both;
        }

        // ---- codes

        private int bits() {
            int bits = 0;
            while (1 << bits < states) {
                bits++;
            }
            return bits;
        }

        private boolean proper(int[] own) {
            Set<Integer> made = new HashSet<>();
            for (int one : own) {
                if (one >= 1 << bits() || !made.add(one)) {
                    return false;
                }
            }
            return true;
        }

        private boolean hangsOn(int[] own, int bit, int set) {
            for (int s = 0; s < states; s++) {
                for (int t = 0; t < states; t++) {
                    for (int x = 0; x < inputs && (own[s] & set) == (own[t] & set); x++) {
                        if (to[s][x] != OPEN && to[t][x] != OPEN
                            && (own[to[s][x]] >> bit & 1) != (own[to[t][x]] >> bit & 1)) {
                            return false;
                        }
                    }
                }
            }
            return true;
        }

        private int leastHang(int[] own, int bit) {
            for (int size = 0; size <= bits(); size++) {
                for (int set = 0; set < 1 << bits(); set++) {
                    if (Integer.bitCount(set) == size && hangsOn(own, bit, set)) {
                        return set;
                    }
                }
            }
            return OPEN;
        }

        int hangs(int bit, int what) {
            if (bit < 0 || bit >= bits() || what != 0 && what != 1) {
                return NONE;
            }
            int set = leastHang(codes, bit);
            return set == OPEN ? OPEN : what == 0 ? Integer.bitCount(set) : set;
        }

        private int costOf(int[] own) {
            int all = 0;
            for (int bit = 0; bit < bits(); bit++) {
                int set = leastHang(own, bit);
                if (set == OPEN) {
                    return OPEN;
                }
                all += Integer.bitCount(set);
            }
            return all;
        }

        int cost() {
            return costOf(codes);
        }

        private static final Map<String, List<Integer>> CUBES = new HashMap<>();

        private boolean holds(int cube, int c) {
            for (int bit = 0; bit < bits(); bit++) {
                int digit = cube % 3;
                cube /= 3;
                if (digit != 2 && digit != (c >> bit & 1)) {
                    return false;
                }
            }
            return true;
        }

        private List<Integer> cubesOf(int[] own, int bit, int x) {
            Set<Integer> on = new TreeSet<>();
            Set<Integer> off = new TreeSet<>();
            for (int s = 0; s < states; s++) {
                if (to[s][x] != OPEN) {
                    ((own[to[s][x]] >> bit & 1) == 1 ? on : off).add(own[s]);
                }
            }
            String key = bits() + ":" + on + off;
            if (!CUBES.containsKey(key)) {
                List<Integer> result = null;
                for (int size = 0; result == null; size++) {
                    result = firstCubes(new ArrayList<>(), 0, size, on, off);
                }
                CUBES.put(key, result);
            }
            return CUBES.get(key);
        }

        private List<Integer> firstCubes(List<Integer> taken, int from, int size, Set<Integer> on, Set<Integer> off) {
            if (taken.size() == size) {
                for (int c : on) {
                    boolean held = false;
                    for (int cube : taken) {
                        held = held || holds(cube, c);
                    }
                    if (!held) {
                        return null;
                    }
                }
                return new ArrayList<>(taken);
            }
            for (int cube = from; cube < Math.pow(3, bits()); cube++) {
                boolean clean = true;
                for (int c : off) {
                    clean = clean && !holds(cube, c);
                }
                if (clean) {
                    taken.add(cube);
                    List<Integer> result = firstCubes(taken, cube + 1, size, on, off);
                    taken.remove(taken.size() - 1);
                    if (result != null) {
                        return result;
                    }
                }
            }
            return null;
        }

        int cube(int bit, int x, int i) {
            if (bit < 0 || bit >= bits() || !isInput(x)) {
                return NONE;
            }
            return proper(codes) ? ith(cubesOf(codes, bit, x), i) : OPEN;
        }

        private int sumOf(int[] own) {
            int all = 0;
            for (int bit = 0; bit < bits(); bit++) {
                for (int x = 0; x < inputs; x++) {
                    all += cubesOf(own, bit, x).size();
                }
            }
            return all;
        }

        int sum() {
            return proper(codes) ? sumOf(codes) : OPEN;
        }

        int coded(int c, int x) {
            if (c < 0 || c >= 1 << bits() || !isInput(x)) {
                return NONE;
            }
            if (!proper(codes)) {
                return OPEN;
            }
            int made = 0;
            for (int bit = 0; bit < bits(); bit++) {
                for (int cube : cubesOf(codes, bit, x)) {
                    made |= holds(cube, c) ? 1 << bit : 0;
                }
            }
            return made;
        }

        int best(int by, int s) {
            if (by != 0 && by != 1 || s != NONE && !isState(s)) {
                return NONE;
            }
            String key = "best" + by;
            if (!memo.containsKey(key)) {
                List<Integer> made = new ArrayList<>(Collections.nCopies(states + 1, 1 << 20));
                tryCodes(by, new int[states], 0, made);
                memo.put(key, made);
            }
            return memo.get(key).get(s == NONE ? states : s);
        }

        private void tryCodes(int by, int[] own, int s, List<Integer> made) {
            if (s == states) {
                if (proper(own)) {
                    int value = by == 0 ? costOf(own) : sumOf(own);
                    if (value < made.get(states)) {
                        for (int k = 0; k < states; k++) {
                            made.set(k, own[k]);
                        }
                        made.set(states, value);
                    }
                }
                return;
            }
            for (int c = 0; c < 1 << bits(); c++) {
                own[s] = c;
                boolean used = false;
                for (int k = 0; k < s; k++) {
                    used = used || own[k] == c;
                }
                if (!used) {
                    tryCodes(by, own, s + 1, made);
                }
            }
        }

        int count(int what) {
            switch (what) {
                case 0: return states;
                case 1: return inputs;
                case 2: return howMany(to, true);
                case 3: return howMany(answer, false);
                case 4: return rounds().size();
                case 5: return rounds().isEmpty() ? OPEN : Collections.max(rounds());
                case 6: return bits();
                case 7: {
                    int all = 0;
                    for (int s = states - 1; s >= 0; s--) {
                        all = all * 8 + codes[s];
                    }
                    return all;
                }
                case 8: return tape.size();
                case 9: return undoable();
                case 10: return (int) Arrays.stream(slots).filter(slot -> slot != null).count();
                case 11: return untouched();
                case 12: return proper(codes) ? 1 : 0;
                case 13: return allMet().size();
                case 14: {
                    int least = 99;
                    for (int p : going()) {
                        int many = blockCount(blocksOf(p));
                        least = many > 1 ? Math.min(many, least) : least;
                    }
                    return least == 99 ? OPEN : least;
                }
                default: return NONE;
            }
        }

        private static int howMany(int[][] rows, boolean open) {
            int many = 0;
            for (int[] row : rows) {
                for (int one : row) {
                    many += (one == OPEN) == open ? 1 : 0;
                }
            }
            return many;
        }

        private List<Integer> rounds() {
            List<Integer> made = new ArrayList<>();
            for (int s = 0; s < states; s++) {
                for (int t = s + 1; t < states; t++) {
                    if (areApart(s, t)) {
                        made.add(apart(s, t, 1));
                    }
                }
            }
            return made;
        }

        private int untouched() {
            int bits = 0;
            for (int t = 0; t < states; t++) {
                boolean touched = false;
                for (int s = 0; s < states; s++) {
                    for (int x = 0; x < inputs; x++) {
                        touched = touched || s != t && to[s][x] == t;
                    }
                }
                bits |= touched ? 0 : 1 << t;
            }
            return bits;
        }
    }
}
