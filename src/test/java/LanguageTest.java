import java.lang.reflect.Constructor;
import java.lang.reflect.Field;
import java.lang.reflect.Method;
import java.lang.reflect.Modifier;
import java.nio.file.Files;
import java.nio.file.Path;
import java.util.HashSet;
import java.util.Set;
import java.util.TreeSet;
import java.util.regex.Matcher;
import java.util.regex.Pattern;

/** The rules of LANGUAGE.md that can be seen from outside: the face, and words that must not stand in the file. */
public final class LanguageTest {
    private static final String SOURCE = "src/main/java/StateMill.java";
    private static final String[] FACE = {
        "back(int)", "code(int,int)", "read()", "feed(int,int,int,int,int)", "place()", "set(int,int,int,int)", "undo()",
        "move(int,int,int)", "apart(int,int,int)", "word(int,int,int)", "shown(int)", "classes()", "greatest(int)",
        "fewest(int)", "isClass(int)", "leads(int,int)", "small(int,int,int)", "home(int)", "met(int)",
        "run(int,int,int,int)", "goesOn(int)", "together(int,int)", "partition(int)", "into(int)", "split(int)",
        "tail(int)", "part(int,int,int)", "series(int,int,int,int,int)", "beside(int,int,int,int,int)",
        "hangs(int,int)", "cost()", "cube(int,int,int)", "sum()", "coded(int,int)", "best(int,int)", "hold(int)",
        "restore(int)", "count(int)"
    };
    private static final Set<String> ANSWER_BOOLEAN = Set.of("set", "code", "undo", "hold", "restore");

    private static int wrong;

    public static void main(String[] args) throws Exception {
        checkFace();
        checkNested();
        checkWords(withoutComments(Files.readString(Path.of(SOURCE))));
        System.out.println(wrong == 0 ? "the language's rules hold" : wrong + " rules broken");
        if (wrong > 0) {
            System.exit(1);
        }
    }

    private static void say(boolean holds, String rule) {
        if (!holds) {
            wrong++;
            System.out.println(rule);
        }
    }

    private static String signature(Method method) {
        StringBuilder made = new StringBuilder(method.getName()).append('(');
        for (Class<?> type : method.getParameterTypes()) {
            made.append(made.charAt(made.length() - 1) == '(' ? "" : ",").append(type.getName());
        }
        return made.append(')').toString();
    }

    private static void checkFace() {
        say(Modifier.isPublic(StateMill.class.getModifiers()) && Modifier.isFinal(StateMill.class.getModifiers()),
            "rule 1: public and final");
        Set<String> seen = new TreeSet<>();
        for (Method method : StateMill.class.getDeclaredMethods()) {
            if (!Modifier.isPrivate(method.getModifiers())) {
                seen.add(signature(method));
                Class<?> due = ANSWER_BOOLEAN.contains(method.getName()) ? boolean.class : int.class;
                say(method.getReturnType() == due, "rule 1: what it answers: " + method);
            }
        }
        say(seen.equals(new TreeSet<>(Set.of(FACE))), "rule 1: the methods are " + seen);
        for (Field field : StateMill.class.getDeclaredFields()) {
            say(Modifier.isPrivate(field.getModifiers()) || field.getName().equals("NONE"), "rule 1: " + field);
        }
        Constructor<?>[] made = StateMill.class.getDeclaredConstructors();
        say(made.length == 1 && made[0].getParameterCount() == 0, "rule 1: one constructor");
    }

    private static void checkNested() {
        Set<String> face = new HashSet<>();
        for (String one : FACE) {
            face.add(one.substring(0, one.indexOf('(')));
        }
        Class<?>[] nested = StateMill.class.getDeclaredClasses();
        say(nested.length <= 11, "rule 11: classes");
        for (Class<?> one : nested) {
            say(Modifier.isStatic(one.getModifiers()) && !Modifier.isPublic(one.getModifiers()), "rule 2: " + one);
            int fields = 0;
            for (Field field : one.getDeclaredFields()) {
                boolean fixed = Modifier.isStatic(field.getModifiers());
                fields += fixed ? 0 : 1;
                say(!fixed || Modifier.isFinal(field.getModifiers()), "rule 5: " + field);
            }
            say(fields <= 20, "rule 11: fields of " + one);
            for (Method method : one.getDeclaredMethods()) {
                say(!face.contains(method.getName()), "rule 1: a name of the face: " + method);
                say(method.getParameterCount() <= 7, "rule 11: parameters of " + method);
            }
        }
    }

    private static String withoutComments(String text) {
        return text.replaceAll("(?s)/\\*.*?\\*/", "").replaceAll("//[^\n]*", "");
    }

    private static void checkWords(String text) {
        String[] forbidden = {
            "throw", "try", "catch", "synchronized", "assert", "package", "->", "::", "Exact", "double", "float",
            "hashCode", "toString", "System.out", "MAX_VALUE", "Random", "new Object"
        };
        for (String word : forbidden) {
            boolean letters = Character.isLetter(word.charAt(0));
            Matcher matcher = Pattern.compile(letters ? "\\b" + Pattern.quote(word) + "\\b" : Pattern.quote(word)).matcher(text);
            say(!matcher.find(), "rule 6: " + word);
        }
        Matcher imports = Pattern.compile("import ([^;]*);").matcher(text);
        while (imports.find()) {
            say(imports.group(1).equals("java.util.Arrays"), "rule 4: " + imports.group());
        }
        Set<String> calls = Set.of("Integer.numberOfTrailingZeros", "Integer.bitCount", "Math.min", "Math.max",
            "Arrays.fill", "System.arraycopy");
        Matcher library = Pattern.compile("\\b(?:Integer|Long|Math|Arrays|System|String)\\.\\w+").matcher(text);
        while (library.find()) {
            say(calls.contains(library.group()), "rule 4: " + library.group());
        }
        int line = 0;
        int start = 0;
        for (String one : text.split("\n", -1)) {
            line++;
            if (one.matches(" {4}(?: {4})?(?:private |public |static |final )*[\\w\\[\\]]+ ?\\w*\\(.*\\) \\{")) {
                start = line;
            }
            if (one.matches(" {4}(?: {4})?\\}") && start > 0) {
                say(line - start <= 60, "rule 11: a method of " + (line - start) + " lines ends at " + line);
                start = 0;
            }
        }
    }
}
