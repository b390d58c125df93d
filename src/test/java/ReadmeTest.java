import java.io.IOException;
import java.lang.reflect.Field;
import java.lang.reflect.Method;
import java.lang.reflect.Modifier;
import java.nio.charset.StandardCharsets;
import java.nio.file.Files;
import java.nio.file.Path;
import java.util.regex.Matcher;
import java.util.regex.Pattern;

/**
 * Every example in README.md answers what stands behind it there, and the page names all that the class has.
 * An example is a block of java that begins with a new object; each further row is a call and, as a comment, its answer.
 */
public final class ReadmeTest {
    private static final Pattern ROW = Pattern.compile("x\\.(\\w+)\\(([^)]*)\\); +// (\\S+)(?: .*)?");
    private static final String BEGINS = "BenchSeats x = new BenchSeats();";
    private static final Due DUE = new Due();

    /** A number, or the name of a constant with or without its class. */
    private static int valueOf(String word) throws ReflectiveOperationException {
        if (word.matches("-?(0x)?[0-9a-f]+")) {
            return Long.decode(word).intValue();
        }
        return BenchSeats.class.getField(word.replace("BenchSeats.", "")).getInt(null);
    }

    private static int answer(BenchSeats x, String name, String told) throws ReflectiveOperationException {
        String[] words = told.isEmpty() ? new String[0] : told.split(", *");
        Class<?>[] types = new Class<?>[words.length];
        Object[] values = new Object[words.length];
        for (int i = 0; i < words.length; i++) {
            types[i] = int.class;
            values[i] = valueOf(words[i]);
        }
        return (Integer) BenchSeats.class.getMethod(name, types).invoke(x, values);
    }

    private static void runs(String page) throws ReflectiveOperationException {
        Matcher blocks = Pattern.compile("(?s)```java\n(.*?)```").matcher(page);
        int found = 0;
        while (blocks.find()) {
            found++;
            BenchSeats x = new BenchSeats();
            String[] rows = blocks.group(1).split("\n");
            DUE.is("example " + found + " begins with a new object", rows[0].startsWith(BEGINS) ? 1 : 0, 1);
            for (int i = 1; i < rows.length; i++) {
                Matcher row = ROW.matcher(rows[i]);
                boolean isCall = row.matches();
                DUE.is("example " + found + ", a call and its answer: " + rows[i], isCall ? 1 : 0, 1);
                if (isCall) {
                    DUE.is("example " + found + ": " + rows[i], answer(x, row.group(1), row.group(2)),
                        valueOf(row.group(3)));
                }
            }
        }
        DUE.is("examples are there", found > 0 ? 1 : 0, 1);
    }

    private static void names(String page) throws ReflectiveOperationException {
        for (Method m : BenchSeats.class.getDeclaredMethods()) {
            if (Modifier.isPublic(m.getModifiers())) {
                boolean isNamed = Pattern.compile("`" + m.getName() + "\\([^)]*\\)`").matcher(page).find();
                DUE.is("the call " + m.getName() + " is named", isNamed ? 1 : 0, 1);
            }
        }
        for (Field f : BenchSeats.class.getFields()) {
            String row = "| `" + f.getName() + "` | " + f.getInt(null) + " |";
            DUE.is("the constant " + f.getName() + " is named", page.contains(row) ? 1 : 0, 1);
        }
    }

    public static void main(String[] args) throws IOException, ReflectiveOperationException {
        String page = Files.readString(Path.of("README.md"), StandardCharsets.UTF_8);
        runs(page);
        names(page);
        DUE.end("ReadmeTest");
    }
}
