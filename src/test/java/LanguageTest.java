import java.io.IOException;
import java.lang.reflect.Constructor;
import java.lang.reflect.Field;
import java.lang.reflect.Method;
import java.lang.reflect.Modifier;
import java.nio.charset.StandardCharsets;
import java.nio.file.Files;
import java.nio.file.Path;
import java.util.HashSet;
import java.util.Set;
import java.util.TreeSet;
import java.util.regex.Matcher;
import java.util.regex.Pattern;

/** The face of the document, and those rules of LANGUAGE.md that can be seen in the source. */
public final class LanguageTest {
    private static final String FACE = "bench3 sitter1 told2 as2 turns2 sits2 rises1 who1 cushion2 rule2 deal1 seed1 "
        + "minutes1 inn1 goes1 game1 worthy1 behind2 fullUp0 rose2 book1 fee0 fine1 feed3 trim1 text0 textTold2 why1 "
        + "sheet3 mark3 pour1 reads1 copy5 lay3 ask2 item2 rest2 tell1 check1 keep0 back0 count1";
    private static final String CONSTANTS = "BAD NO FULL NONE NOTHING KIND INDEX SIZE";
    private static int wrong;

    private static void holds(boolean fact, String what) {
        if (!fact) {
            wrong++;
            System.out.println("does not hold: " + what);
        }
    }

    private static void face() {
        Set<String> methods = new TreeSet<>();
        for (Method m : BenchSeats.class.getDeclaredMethods()) {
            if (Modifier.isPrivate(m.getModifiers())) {
                holds(!(" " + FACE).matches(".* " + m.getName() + "[0-9].*"), "no private method " + m.getName());
                continue;
            }
            boolean isPlain = m.getModifiers() == Modifier.PUBLIC && m.getReturnType() == int.class;
            for (Class<?> c : m.getParameterTypes()) {
                isPlain &= c == int.class;
            }
            holds(isPlain, m.getName() + " is public and of ints");
            methods.add(m.getName() + m.getParameterCount());
        }
        holds(methods.equals(new TreeSet<>(Set.of(FACE.split(" ")))), "the methods of the face: " + methods);
        Set<String> constants = new TreeSet<>();
        for (Field f : BenchSeats.class.getDeclaredFields()) {
            if (!Modifier.isPrivate(f.getModifiers())) {
                int way = Modifier.PUBLIC | Modifier.STATIC | Modifier.FINAL;
                holds(f.getModifiers() == way && f.getType() == int.class, f.getName() + " is a constant");
                constants.add(f.getName());
            }
        }
        holds(constants.equals(new TreeSet<>(Set.of(CONSTANTS.split(" ")))), "the constants of the face: " + constants);
        Constructor<?>[] made = BenchSeats.class.getDeclaredConstructors();
        holds(made.length == 1 && made[0].getModifiers() == Modifier.PUBLIC && made[0].getParameterCount() == 0,
            "one public constructor");
        holds(BenchSeats.class.getModifiers() == (Modifier.PUBLIC | Modifier.FINAL), "public final");
    }

    private static void classesInside() {
        Class<?>[] inside = BenchSeats.class.getDeclaredClasses();
        holds(inside.length < 12, "at most some twelve classes");
        Set<String> publicNames = new HashSet<>();
        for (String name : FACE.split(" ")) {
            publicNames.add(name.substring(0, name.length() - 1));
        }
        for (Class<?> c : inside) {
            holds(Modifier.isStatic(c.getModifiers()) && !Modifier.isPublic(c.getModifiers())
                && !Modifier.isProtected(c.getModifiers()), c + " is static and not seen from outside");
            int fields = 0;
            for (Field f : c.getDeclaredFields()) {
                fields += Modifier.isStatic(f.getModifiers()) ? 0 : 1;
                holds(!Modifier.isStatic(f.getModifiers()) || Modifier.isFinal(f.getModifiers()), f + " is final");
            }
            holds(fields <= 20, c + " has some twenty fields at most");
            for (Method m : c.getDeclaredMethods()) {
                holds(!publicNames.contains(m.getName()), m + " bears no name of the face");
                holds(m.getParameterCount() <= 7, m + " takes seven at most");
            }
        }
    }

    private static void words(String source) {
        String code = source.replaceAll("(?s)/\\*.*?\\*/", "").replaceAll("//[^\n]*", "")
            .replaceAll("\"[^\"\n]*\"", "\"\"").replaceAll("'.'", "' '");
        String[] forbidden = {"\\bthrow\\b", "\\bthrows\\b", "\\btry\\b", "\\bcatch\\b", "\\bfinally\\b",
            "\\bsynchronized\\b", "\\bassert\\b", "\\bpackage\\b", "\\bvolatile\\b", "\\btransient\\b", "\\bnative\\b",
            "->", "::", "\\bThread\\b", "\\bException\\b", "\\bError\\b", "currentTimeMillis", "nanoTime", "\\bRandom\\b",
            "java\\.io", "java\\.nio", "java\\.net", "getClass", "hashCode", "toString", "Exact\\(", "\\bObject\\b",
            "\\bprotected\\b", "@", "while \\(true\\)", "for \\(;;\\)"};
        for (String word : forbidden) {
            holds(!Pattern.compile(word).matcher(code).find(), "nothing like " + word + " in the source");
        }
        Matcher imports = Pattern.compile("import ([^;]*);").matcher(code);
        while (imports.find()) {
            holds(imports.group(1).matches("java\\.util\\.(Arrays|ArrayList|List|Iterator)"), imports.group());
        }
        for (char c : source.toCharArray()) {
            holds(c == '\n' || c >= 32 && c < 127, "plain signs alone");
        }
    }

    private static void methodsAreShort(String source) {
        int begun = 0;
        int methods = 0;
        String[] lines = source.split("\n");
        for (int i = 0; i < lines.length; i++) {
            boolean isHead = lines[i].matches("( {4}| {8})\\w.*\\) \\{")
                && !lines[i].matches(" *(if|for|while|switch|do)\\b.*");
            if (isHead) {
                begun = i;
                methods++;
            }
            holds(begun == 0 || !lines[i].equals(lines[begun].replaceAll("\\S.*", "}")) || i - begun <= 60,
                "a method of some sixty lines at most, from line " + (begun + 1));
        }
        holds(methods > 43, "methods were found");
    }

    public static void main(String[] args) throws IOException {
        String source = Files.readString(Path.of("src/main/java/BenchSeats.java"), StandardCharsets.ISO_8859_1);
        face();
        classesInside();
        words(source);
        methodsAreShort(source);
        System.out.println("LanguageTest: " + wrong + " rules do not hold");
        if (wrong != 0) {
            System.exit(1);
        }
    }
}
