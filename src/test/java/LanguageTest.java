import java.io.IOException;
import java.lang.reflect.Constructor;
import java.lang.reflect.Field;
import java.lang.reflect.Method;
import java.lang.reflect.Modifier;
import java.nio.file.Files;
import java.nio.file.Path;
import java.util.Set;
import java.util.TreeSet;
import java.util.regex.Matcher;
import java.util.regex.Pattern;

/** The class's face, and the rules of ../shared/LANGUAGE.md that can be looked up in the file. */
public final class LanguageTest {
    private static final Path SOURCE = Path.of("src/main/java/BracketDraws.java");
    private static final String FACE = """
        int player(int,int,int,int)
        int tell(int,int,int)
        int of(int,int)
        int level(int,int)
        int feed(int)
        int players()
        long howMany()
        long stands(int,int)
        long meets(int,int,int)
        long apart(int,int)
        int take(long)
        long drawn(int)
        int slot(int)
        int where(int)
        long number()
        long swapped(int,int)
        int soonest(int,int)
        int relaxed(int)
        int play()
        int byHand(int)
        int through(int,int)
        int met(int,int)
        int winner()
        long wins(int)
        int print(int)
        int brackets(int)
        int undo()
        int redo()
        int image()
        int back()
        int count(int)
        """;

    public static void main(String[] args) throws IOException {
        String source = Files.readString(SOURCE);
        String code = source.replaceAll("(?s)/\\*.*?\\*/", "").replaceAll("//[^\n]*", "");
        face();
        classesInside();
        noForbiddenWord(code);
        librariesUsed(code);
        rowsAreMadeInConstructors(code);
        lengths(source);
        neverThrows();
        Check.end();
    }

    private static void face() {
        Set<String> due = new TreeSet<>(FACE.lines().toList());
        Set<String> found = new TreeSet<>();
        for (Method method : BracketDraws.class.getDeclaredMethods()) {
            if (Modifier.isPublic(method.getModifiers())) {
                String[] types = new String[method.getParameterCount()];
                for (int i = 0; i < types.length; i++) {
                    types[i] = method.getParameterTypes()[i].getSimpleName();
                }
                found.add(method.getReturnType() + " " + method.getName() + "(" + String.join(",", types) + ")");
            } else {
                Check.due(method + " is private", Modifier.isPrivate(method.getModifiers()) ? 1 : 0, 1);
            }
        }
        Check.due("the public methods", found.toString(), due.toString());
        Check.due("the class", Modifier.toString(BracketDraws.class.getModifiers()), "public final");
        Check.due("BAD", BracketDraws.BAD, -1);
        Check.due("NOT", BracketDraws.NOT, -2);
        Check.due("FULL", BracketDraws.FULL, -3);
        Check.due("STATE", BracketDraws.STATE, -5);
        Set<String> constants = new TreeSet<>();
        for (Field field : BracketDraws.class.getDeclaredFields()) {
            if (Modifier.isPublic(field.getModifiers())) {
                constants.add(Modifier.toString(field.getModifiers()) + " " + field.getType() + " " + field.getName());
            } else {
                Check.due(field + " is private", Modifier.isPrivate(field.getModifiers()) ? 1 : 0, 1);
            }
        }
        Check.due("the constants", constants.toString(), "[public static final int BAD, public static final int FULL, "
                + "public static final int NOT, public static final int STATE]");
        Constructor<?>[] made = BracketDraws.class.getDeclaredConstructors();
        Check.due("constructors", made.length, 1);
        Check.due("the constructor", made[0].toString(), "public BracketDraws()");
    }

    private static void classesInside() {
        Set<String> faceNames = new TreeSet<>();
        FACE.lines().forEach(line -> faceNames.add(line.replaceAll("\\w+ (\\w+)\\(.*", "$1")));
        Class<?>[] inside = BracketDraws.class.getDeclaredClasses();
        Check.due("classes are 12 at most", Math.max(12, inside.length + 1), 12);
        fewFields(BracketDraws.class);
        for (Method method : BracketDraws.class.getDeclaredMethods()) {
            boolean hidden = !Modifier.isPublic(method.getModifiers());
            Check.due(method + " bears a name of the face", hidden && faceNames.contains(method.getName()) ? 1 : 0, 0);
        }
        for (Class<?> one : inside) {
            Check.due(one + " is static", Modifier.isStatic(one.getModifiers()) ? 1 : 0, 1);
            Check.due(one + " is public or protected", one.getModifiers() & (Modifier.PUBLIC | Modifier.PROTECTED), 0);
            fewFields(one);
            for (Method method : one.getDeclaredMethods()) {
                Check.due(method + " bears a name of the face", faceNames.contains(method.getName()) ? 1 : 0, 0);
                Check.due(method + " has 7 arguments at most", Math.max(7, method.getParameterCount()), 7);
            }
        }
    }

    private static void fewFields(Class<?> one) {
        int fields = 0;
        for (Field field : one.getDeclaredFields()) {
            boolean constant = Modifier.isStatic(field.getModifiers());
            Check.due(field + ", static, is final", constant && !Modifier.isFinal(field.getModifiers()) ? 1 : 0, 0);
            fields += constant ? 0 : 1;
        }
        Check.due(one + " has 20 fields at most", Math.max(20, fields), 20);
    }

    private static void noForbiddenWord(String code) {
        String[] words = {"throw", "throws", "try", "catch", "finally", "synchronized", "assert", "import", "package",
            "instanceof", "equals", "hashCode", "toString", "native", "volatile", "transient", "var", "Object"};
        for (String word : words) {
            Check.due("'" + word + "' stands in the file", Pattern.compile("\\b" + word + "\\b").matcher(code).find()
                    ? 1 : 0, 0);
        }
        Check.due("a lambda or a method reference", code.contains("->") || code.contains("::") ? 1 : 0, 0);
        Check.due("a static block", Pattern.compile("static\\s*\\{").matcher(code).find() ? 1 : 0, 0);
    }

    private static void librariesUsed(String code) {
        Set<String> allowed = Set.of("Integer.bitCount", "Math.max", "Math.min", "System.arraycopy");
        Matcher used = Pattern.compile("\\b(?:Integer|Long|Math|System|Arrays|List|String)\\.\\w+").matcher(code);
        while (used.find()) {
            Check.due(used.group() + " is one of those that may be used", allowed.contains(used.group()) ? 1 : 0, 1);
        }
    }

    /** All calls of one run live in one room: no call makes an object. */
    private static void rowsAreMadeInConstructors(String code) {
        for (String line : code.split("\n")) {
            if (line.contains("new ")) {
                boolean field = line.matches("\\s*(private )?final [\\w\\[\\]]+ \\w+ = new .*;");
                boolean ofHistory = line.trim().equals("kept[i] = new Situation();");
                Check.due("made where rows are made: " + line.trim(), field || ofHistory ? 1 : 0, 1);
            }
        }
    }

    private static void lengths(String source) {
        int started = 0;
        int number = 0;
        for (String line : source.split("\n")) {
            number++;
            Check.due("line " + number + " has 120 signs at most", Math.max(120, line.length()), 120);
            Check.due("line " + number + " is of plain signs", line.chars().allMatch(c -> c < 128) ? 1 : 0, 1);
            if (line.matches("( {4}| {8})[\\w\\[\\] <>]+\\([^;]*\\{")) {
                started = number;
            }
            if (line.matches("( {4}| {8})\\}")) {
                Check.due("the method that ends in line " + number + " is short",
                        started > 0 && number - started > 60 ? 1 : 0, 0);
                started = 0;
            }
        }
    }

    /** Each call with odd numbers, in each of some states. */
    private static void neverThrows() {
        long[] odd = {0, 1, 2, 9, 10, 31, 1023, 1024, -1, Integer.MIN_VALUE, Integer.MAX_VALUE, Long.MIN_VALUE,
            Long.MAX_VALUE};
        for (int players = 0; players <= 10; players++) {
            for (Method method : BracketDraws.class.getDeclaredMethods()) {
                if (Modifier.isPublic(method.getModifiers())) {
                    oddCalls(players, method, odd);
                }
            }
        }
    }

    private static void oddCalls(int players, Method method, long[] odd) {
        BracketDraws x = Calls.plain(players);
        x.image();
        x.take(players);
        Class<?>[] types = method.getParameterTypes();
        for (int i = 0; i < odd.length * odd.length; i++) {
            Object[] given = new Object[types.length];
            for (int k = 0; k < given.length; k++) {
                long v = odd[(k % 2 == 0 ? i : i / odd.length) % odd.length];
                given[k] = types[k] == long.class ? (Object) v : (Object) (int) v;
            }
            try {
                method.invoke(x, given);
                if (i % 20 == 0) {
                    x.take(i % 3);
                    x.play();
                    x.feed('x');
                }
            } catch (ReflectiveOperationException e) {
                Check.fault(method + " threw " + e.getCause() + " for " + java.util.Arrays.toString(given));
            }
        }
    }
}
