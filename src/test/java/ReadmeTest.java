import java.io.IOException;
import java.lang.reflect.InvocationTargetException;
import java.lang.reflect.Method;
import java.lang.reflect.Modifier;
import java.nio.file.Files;
import java.nio.file.Path;
import java.util.ArrayList;
import java.util.Arrays;
import java.util.List;
import java.util.Set;
import java.util.TreeSet;
import java.util.regex.Matcher;
import java.util.regex.Pattern;
import java.util.stream.Stream;

/** README.md as it is written: its example and commands are run, its tables are asked of the class. */
public final class ReadmeTest {
    private static final Check CHECK = new Check();
    private static final int OPEN_END = Integer.MAX_VALUE;
    /** Numbers that are as told in every call, and of which no two who must be unlike are alike. */
    private static final int[] ORDINARY = {2, 1, 1, 1};

    public static void main(String[] args) throws Exception {
        String readme = Files.readString(Path.of("README.md"));
        List<String[]> calls = rows(readme, "call");
        everyCallIsTold(calls);
        for (String[] call : calls) {
            refusedAsTold(call);
            boundsAsTold(call);
        }
        constantsAsTold(readme);
        textsAsTold(rows(readme, "text"));
        kindsAsTold(rows(readme, "kind"));
        everyTestIsTold(readme);
        commandsAsTold(readme);
        CHECK.end();
    }

    /** The cells of all tables whose first heading this is. */
    private static List<String[]> rows(String readme, String heading) {
        List<String[]> rows = new ArrayList<>();
        boolean within = false;
        for (String line : readme.split("\n")) {
            if (!line.startsWith("|")) {
                within = false;
            } else if (line.startsWith("| " + heading + " |")) {
                within = true;
            } else if (within && !line.startsWith("|---")) {
                String[] cells = line.substring(1).split("\\|", -1);
                rows.add(Arrays.stream(cells).map(String::trim).toArray(String[]::new));
            }
        }
        CHECK.due("a table of " + heading, !rows.isEmpty());
        return rows;
    }

    private static Method methodOf(String[] call) {
        String name = call[0].substring(1, call[0].indexOf('('));
        for (Method method : HonestGold.class.getDeclaredMethods()) {
            if (Modifier.isPublic(method.getModifiers()) && method.getName().equals(name)) {
                return method;
            }
        }
        throw new IllegalStateException("no such call: " + name);
    }

    /** The names that stand between a call's brackets. */
    private static String[] namesOf(String[] call) {
        String names = call[0].substring(call[0].indexOf('(') + 1, call[0].indexOf(')'));
        return names.isEmpty() ? new String[0] : names.split(", ");
    }

    /** The least and the greatest of each number, in the order of the call. */
    private static int[][] rangesOf(String[] call) {
        String[] names = namesOf(call);
        String[] told = call[1].isEmpty() ? new String[0] : call[1].split(", ");
        CHECK.due("as many numbers as names: " + call[0], told.length, names.length);
        int[][] ranges = new int[names.length][];
        for (int i = 0; i < names.length; i++) {
            Matcher m = Pattern.compile("(\\w+) (-?\\d+)\\.\\.(-?\\d+)?").matcher(told[i]);
            CHECK.due("a range: " + told[i] + " of " + call[0], m.matches() && m.group(1).equals(names[i]));
            int most = m.group(3) == null ? OPEN_END : Integer.parseInt(m.group(3));
            ranges[i] = new int[] {Integer.parseInt(m.group(2)), most};
        }
        return ranges;
    }

    private static Object[] ordinary(int[][] ranges) {
        Object[] numbers = new Object[ranges.length];
        for (int i = 0; i < ranges.length; i++) {
            numbers[i] = Math.max(ranges[i][0], Math.min(ranges[i][1], ORDINARY[i]));
        }
        return numbers;
    }

    private static long answer(HonestGold x, Method method, Object[] numbers) throws IllegalAccessException {
        try {
            return ((Number) method.invoke(x, numbers)).longValue();
        } catch (InvocationTargetException e) {
            CHECK.due("no call throws: " + method + Arrays.toString(numbers) + " " + e.getCause(), false);
            return Long.MIN_VALUE;
        }
    }

    private static void everyCallIsTold(List<String[]> calls) {
        Set<String> told = new TreeSet<>();
        for (String[] call : calls) {
            CHECK.due("told once: " + call[0], told.add(methodOf(call).getName()));
            CHECK.due("its numbers: " + call[0], methodOf(call).getParameterCount(), namesOf(call).length);
        }
        for (Method method : HonestGold.class.getDeclaredMethods()) {
            if (Modifier.isPublic(method.getModifiers())) {
                CHECK.due("it is told: " + method.getName(), told.contains(method.getName()));
                boolean isLong = method.getReturnType() == long.class;
                CHECK.due("a long or an int: " + method, isLong == Set.of("part", "digest").contains(method.getName()));
            }
        }
    }

    /** Six people, six notes and a full text, but no hands, no image and nothing to undo. */
    private static HonestGold packed() {
        HonestGold x = new HonestGold();
        for (int p = 0; p < 6; p++) {
            x.one(0, 12 - p, 30, 20);
            x.note(p, 1, 1, 1);
        }
        Twins.type(x, Twins.FULL_TEXT);
        return x;
    }

    /** Where nothing more can be had, an ordinary call is refused by the reason that the page tells. */
    private static void refusedAsTold(String[] call) throws IllegalAccessException {
        HonestGold x = packed();
        int[] before = {x.status(0), x.status(1), x.status(2)};
        Method method = methodOf(call);
        long got = answer(x, method, ordinary(rangesOf(call)));
        boolean no = call[3].contains("NO ");
        boolean full = call[3].contains("FULL ");
        CHECK.due("BAD of " + call[0], x.status(0), before[0]);
        CHECK.due("NO of " + call[0], x.status(1), before[1] + (no ? 1 : 0));
        CHECK.due("FULL of " + call[0], x.status(2), before[2] + (full ? 1 : 0));
        if (no || full) {
            CHECK.due(call[0], got, no ? HonestGold.NO : HonestGold.FULL);
        }
    }

    /** The least and the greatest are taken, the ones beyond are BAD, and two alike where that is told alone. */
    private static void boundsAsTold(String[] call) throws IllegalAccessException {
        int[][] ranges = rangesOf(call);
        CHECK.due("BAD, if there are numbers: " + call[0], call[3].contains("BAD") == (ranges.length > 0));
        for (int i = 0; i < ranges.length; i++) {
            bad(call, i, ranges[i][0], false);
            bad(call, i, ranges[i][1], false);
            bad(call, i, ranges[i][0] - 1, true);
            if (ranges[i][1] != OPEN_END) {
                bad(call, i, ranges[i][1] + 1, true);
            }
        }
        if (ranges.length > 1) {
            bad(call, 0, ORDINARY[1], call[3].contains("alike, too"));
        }
    }

    private static void bad(String[] call, int place, int number, boolean due) throws IllegalAccessException {
        HonestGold x = packed();
        int before = x.status(0);
        Object[] numbers = ordinary(rangesOf(call));
        numbers[place] = number;
        long got = answer(x, methodOf(call), numbers);
        String what = call[0] + " with " + Arrays.toString(numbers);
        if (due) {
            Matcher other = Pattern.compile("BAD as (-\\d+)").matcher(call[3]);
            CHECK.due(what, got, other.find() ? Integer.parseInt(other.group(1)) : HonestGold.BAD);
        }
        CHECK.due(what + ": how many are BAD", x.status(0), before + (due ? 1 : 0));
    }

    private static void constantsAsTold(String readme) {
        CHECK.due("BAD", readme.contains("`BAD` (" + HonestGold.BAD + ")"));
        CHECK.due("NO", readme.contains("`NO` (" + HonestGold.NO + ")"));
        CHECK.due("FULL", readme.contains("`FULL` (" + HonestGold.FULL + ")"));
        CHECK.due("NONE", readme.contains("`NONE` (" + HonestGold.NONE + ")"));
    }

    private static void textsAsTold(List<String[]> texts) {
        for (String[] row : texts) {
            String text = row[0].equals("(none)") ? "" : row[0].substring(1, row[0].length() - 1);
            HonestGold x = new HonestGold();
            CHECK.due("read of " + row[0], Check.read(x, text), Integer.parseInt(row[1]));
            CHECK.due("no refusal", x.status(0) + x.status(1) + x.status(2), 0);
        }
    }

    /** The order of the kinds; what they weigh is asked in PeopleEdgesTest. */
    private static void kindsAsTold(List<String[]> kinds) {
        int[] five = {35, 60, 17, 40, 0, 40};
        CHECK.due("six kinds", kinds.size(), five.length);
        String[] names = {"plain", "child", "half", "smith", "minister", "banker"};
        for (int kind = 0; kind < five.length; kind++) {
            HonestGold x = new HonestGold();
            x.one(kind, 7, 5, 0);
            CHECK.due("kind " + kind, kinds.get(kind)[0].equals(kind + " " + names[kind]));
            CHECK.due("5 by 7 with kind " + kind, x.of(0, 6), five[kind]);
        }
    }

    private static void everyTestIsTold(String readme) throws IOException {
        CHECK.due("how to run them", readme.contains("\n    .ci/run\n"));
        CHECK.due(".ci/run may be run", Files.isExecutable(Path.of(".ci/run")));
        try (Stream<Path> files = Files.list(Path.of("src/test/java"))) {
            for (Path file : files.toList()) {
                String name = file.getFileName().toString().replace(".java", "");
                CHECK.due(name + " is told", readme.contains("`" + name + "`"));
            }
        }
    }

    /** What stands between lines of three signs, each with the word behind the first of them ahead of it. */
    private static List<String[]> blocks(String readme) {
        List<String[]> blocks = new ArrayList<>();
        Matcher m = Pattern.compile("(?sm)^```(\\w+)\n(.*?)^```$").matcher(readme);
        while (m.find()) {
            blocks.add(new String[] {m.group(1), m.group(2)});
        }
        return blocks;
    }

    /** The commands are given to a shell as they stand, in a directory that has what the checkout has. */
    private static void commandsAsTold(String readme) throws IOException, InterruptedException {
        Path room = Files.createTempDirectory("readme");
        Path checkout = Files.createDirectory(room.resolve("main"));
        Files.createSymbolicLink(checkout.resolve("src"), Path.of("src").toRealPath());
        Files.createSymbolicLink(room.resolve("shared"), Path.of("../shared").toRealPath());
        String said = "";
        int shells = 0;
        int examples = 0;
        for (String[] block : blocks(readme)) {
            switch (block[0]) {
                case "java": Files.writeString(checkout.resolve("Example.java"), block[1]); break;
                case "sh":
                    said = shell(checkout, block[1]);
                    shells++;
                    break;
                default:
                    CHECK.due("it prints as told, not\n" + said, said.equals(block[1]));
                    examples++;
            }
        }
        CHECK.due("commands", shells, 3);
        CHECK.due("an example", examples, 1);
        try (Stream<Path> left = Files.walk(room)) {
            left.sorted((a, b) -> b.compareTo(a)).forEach(path -> path.toFile().delete());
        }
    }

    private static String shell(Path at, String commands) throws IOException, InterruptedException {
        ProcessBuilder builder = new ProcessBuilder("sh", "-e", "-c", commands);
        Process process = builder.directory(at.toFile()).redirectErrorStream(true).start();
        process.getOutputStream().close();
        String said = new String(process.getInputStream().readAllBytes());
        CHECK.due(commands + said, process.waitFor(), 0);
        return said;
    }
}
