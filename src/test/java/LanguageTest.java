import java.io.IOException;
import java.lang.management.ManagementFactory;
import java.lang.reflect.Field;
import java.lang.reflect.Member;
import java.lang.reflect.Method;
import java.lang.reflect.Modifier;
import java.nio.file.Files;
import java.nio.file.Path;
import java.util.Arrays;
import java.util.Set;
import java.util.TreeSet;
import java.util.regex.Matcher;
import java.util.regex.Pattern;

/** The rules of LANGUAGE.md that can be looked at: the face, the words, the sizes, the room. */
public final class LanguageTest {
    private static final Check CHECK = new Check();
    private static final String[] FACE = {
        "int gold()", "int one(int,int,int,int)", "int hands(int,int,int)", "int type(int)", "int clear()",
        "int read()", "int lie(int,int)", "int give(int,int,int)", "int day()", "int undo()", "int of(int,int)",
        "int weighs(int,int)", "int all()", "int when(int,int)", "int bag(int,int,int,int)", "int debt(int,int)",
        "int hire(int,int,int)", "int shelves(int,int,int)", "int note(int,int,int,int)", "int forget()",
        "int is(int,int)", "int next(int)", "int two(int,int)", "int winds(int,int)", "int years(int,int)",
        "long part(int)", "int image(int)", "int from(int)", "int status(int)", "int count(int)", "long digest()"};

    public static void main(String[] args) throws IOException {
        face();
        fields(HonestGold.class);
        for (Class<?> inner : HonestGold.class.getDeclaredClasses()) {
            fields(inner);
        }
        String source = Files.readString(Path.of("src/main/java/HonestGold.java"));
        words(source);
        sizes(source);
        room();
        CHECK.end();
    }

    private static void face() {
        Class<?> type = HonestGold.class;
        CHECK.due("public and final", Modifier.isPublic(type.getModifiers()) && Modifier.isFinal(type.getModifiers()));
        Set<String> seen = new TreeSet<>();
        Set<String> names = new TreeSet<>();
        for (Method method : type.getDeclaredMethods()) {
            if (!Modifier.isPrivate(method.getModifiers())) {
                CHECK.due("public, not static: " + method, method.getModifiers(), Modifier.PUBLIC);
                seen.add(signature(method));
                names.add(method.getName());
            }
        }
        CHECK.due("the face " + seen, seen.equals(new TreeSet<>(Arrays.asList(FACE))));
        for (Class<?> inner : type.getDeclaredClasses()) {
            CHECK.due("static: " + inner, Modifier.isStatic(inner.getModifiers()));
            for (Method method : inner.getDeclaredMethods()) {
                CHECK.due("a name of its own: " + method, !names.contains(method.getName()));
            }
        }
        for (Method method : type.getDeclaredMethods()) {
            CHECK.due("a name of its own: " + method,
                !Modifier.isPrivate(method.getModifiers()) || !names.contains(method.getName()));
        }
        Set<String> constants = new TreeSet<>();
        for (Member field : type.getDeclaredFields()) {
            if (!Modifier.isPrivate(field.getModifiers())) {
                constants.add(field.getName());
            }
        }
        CHECK.due("the constants", constants.equals(new TreeSet<>(Arrays.asList("NONE", "BAD", "NO", "FULL"))));
        CHECK.due("one constructor", type.getDeclaredConstructors().length, 1);
        CHECK.due("some twelve classes", 1 + type.getDeclaredClasses().length <= 12);
    }

    /** Static fields are constants, and a class has some twenty fields beside them. */
    private static void fields(Class<?> type) {
        int own = 0;
        for (Field field : type.getDeclaredFields()) {
            if (Modifier.isStatic(field.getModifiers())) {
                boolean constant = field.getType().isPrimitive() || field.getType() == String.class;
                CHECK.due("a constant: " + field, constant && Modifier.isFinal(field.getModifiers()));
            } else {
                CHECK.due("not seen from outside: " + field, Modifier.isPrivate(field.getModifiers()));
                own++;
            }
        }
        CHECK.due("fields of " + type, own <= 20);
    }

    private static String signature(Method method) {
        StringBuilder s = new StringBuilder(method.getReturnType().getName());
        s.append(' ').append(method.getName()).append('(');
        for (Class<?> p : method.getParameterTypes()) {
            s.append(s.charAt(s.length() - 1) == '(' ? "" : ",").append(p.getName());
        }
        return s.append(')').toString();
    }

    private static void words(String source) {
        String code = source.replaceAll("(?s)/\\*.*?\\*/", " ").replaceAll("//[^\n]*", " ");
        String[] forbidden = {"throw", "throws", "try", "catch", "finally", "synchronized", "assert", "import",
            "package", "var", "new Object", "Object", "System", "->", "::", "@", "Exact", "float", "double",
            "equals", "hashCode", "toString", "Integer\\.(?!bitCount)", "Math\\.(?!min|max)", "static \\{"};
        for (String word : forbidden) {
            Pattern whole = Pattern.compile(Character.isLetter(word.charAt(0)) ? "\\b" + word : word);
            Matcher m = whole.matcher(code);
            while (m.find()) {
                int end = m.end();
                boolean partOfAName = Character.isLetter(word.charAt(0)) && end < code.length()
                    && Character.isLetter(code.charAt(end)) && !word.startsWith("Integer") && !word.startsWith("Math");
                CHECK.due("the word " + word, partOfAName);
            }
        }
        CHECK.due("signs of 1 to 127 alone", source.chars().allMatch(c -> c >= 1 && c <= 127));
    }

    private static void sizes(String source) {
        String[] lines = source.split("\n");
        int begun = -1;
        String indent = "";
        for (int i = 0; i < lines.length; i++) {
            Matcher m = Pattern.compile("^( {4}| {8})[^ /*].*\\).* \\{$").matcher(lines[i]);
            if (m.find() && !lines[i].contains(" class ")) {
                begun = i;
                indent = m.group(1);
            }
            if (begun >= 0 && lines[i].equals(indent + "}")) {
                CHECK.due("short: " + lines[begun].trim(), i - begun + 1 <= 60);
                begun = -1;
            }
        }
        for (Class<?> inner : HonestGold.class.getDeclaredClasses()) {
            for (Method method : inner.getDeclaredMethods()) {
                CHECK.due("seven parameters at most: " + method, method.getParameterCount() <= 7);
            }
        }
    }

    /** Calls make no objects but the two images: an object's 512 calls stay far below the room. */
    private static void room() {
        com.sun.management.ThreadMXBean bean = (com.sun.management.ThreadMXBean) ManagementFactory.getThreadMXBean();
        long thread = Thread.currentThread().getId();
        HonestGold warm = new HonestGold();
        use(warm);
        HonestGold x = new HonestGold();
        long before = bean.getThreadAllocatedBytes(thread);
        use(x);
        long made = bean.getThreadAllocatedBytes(thread) - before;
        CHECK.due("bytes made in a run: " + made, made < 20000);
    }

    private static void use(HonestGold x) {
        String text = "gold;one 0 7 9 3;one 5 1 9 3;hands 0 1;lie 0 2;";
        for (int i = 0; i < text.length(); i++) {
            x.type(text.charAt(i));
        }
        for (int round = 0; round < 15; round++) {
            x.read();
            x.one(4, 4, 4, 4);
            x.lie(0, 1);
            x.give(0, 1, 1);
            x.day();
            x.undo();
            x.all();
            x.when(1, 60);
            x.bag(0, 1, 4, 1);
            x.debt(1, 9);
            x.hire(20, 9, 0);
            x.shelves(3, 2, 1);
            x.note(0, 1, 2, 3);
            x.is(0, 0);
            x.is(0, 1);
            x.next(0);
            x.two(0, 1);
            x.winds(50, 3);
            x.years(5, 60);
            x.image(round % 2);
            x.from(0);
            x.status(0);
            x.count(2);
            x.digest();
        }
    }
}
