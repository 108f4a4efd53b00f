import java.io.IOException;
import java.lang.reflect.Method;
import java.nio.file.Files;
import java.nio.file.Path;
import java.util.regex.Matcher;
import java.util.regex.Pattern;

/** README.md tells each call of the document with its promise's number, the constants, and answers that are due. */
public final class ReadmeTest {
    private static final Check check = new Check();

    public static void main(String[] args) throws IOException, ReflectiveOperationException {
        String readme = Files.readString(Path.of("README.md"));
        calls(readme, Files.readString(Path.of("../shared/DOC.md")));
        constants(readme);
        answers(readme);
        for (String told : new String[] {"new RodDips()", "512 calls", "DOC.md", ".ci/run"}) {
            check.due("README.md has " + told, readme.contains(told) ? 1 : 0, 1);
        }
        check.end();
    }

    private static void calls(String readme, String doc) {
        check.promise("README.md, calls");
        Matcher promise = Pattern.compile("## Promise (\\d+): .*\\s+(`[^`]+`):").matcher(doc);
        int promises = 0;
        while (promise.find()) {
            promises++;
            String row = "| " + promise.group(1) + " | " + promise.group(2) + " |";
            check.due("a row of " + row, readme.contains(row) ? 1 : 0, 1);
        }
        check.due("promises in DOC.md", promises, 33);
    }

    private static void constants(String readme) throws ReflectiveOperationException {
        check.promise("README.md, constants");
        for (String name : new String[] {"NONE", "BAD", "STATE", "FULL"}) {
            String row = "| `" + name + "` | " + RodDips.class.getField(name).getInt(null) + " |";
            check.due("a row of " + row, readme.contains(row) ? 1 : 0, 1);
        }
        check.due("NO", RodDips.NO, Long.MIN_VALUE);
        check.due("a row of NO", readme.contains("| `NO` | `Long.MIN_VALUE` |") ? 1 : 0, 1);
    }

    private static void answers(String readme) throws ReflectiveOperationException {
        check.promise("README.md, answers");
        RodDips x = new RodDips();
        Matcher line = Pattern.compile("(?m)^x\\.(\\w+)\\((.*)\\);\\s+// (-?\\d+)").matcher(readme);
        int lines = 0;
        while (line.find()) {
            lines++;
            check.due(line.group(), answer(x, line.group(1), line.group(2)), Long.parseLong(line.group(3)));
        }
        check.due("there are lines with answers", lines > 0 ? 1 : 0, 1);
    }

    private static long answer(RodDips x, String name, String numbers) throws ReflectiveOperationException {
        for (Method method : RodDips.class.getMethods()) {
            if (!method.getName().equals(name)) continue;
            String[] told = numbers.isEmpty() ? new String[0] : numbers.split(", ");
            Object[] given = new Object[told.length];
            for (int i = 0; i < told.length; i++) {
                long n = Long.decode(told[i].replace("L", ""));
                if (method.getParameterTypes()[i] == long.class) given[i] = n;
                else given[i] = (int) n;
            }
            return ((Number) method.invoke(x, given)).longValue();
        }
        return RodDips.NO;
    }
}
