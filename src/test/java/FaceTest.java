import java.io.IOException;
import java.lang.reflect.Constructor;
import java.lang.reflect.Field;
import java.lang.reflect.Method;
import java.lang.reflect.Modifier;
import java.nio.charset.StandardCharsets;
import java.nio.file.Files;
import java.nio.file.Path;
import java.util.Arrays;
import java.util.Set;
import java.util.TreeSet;
import java.util.regex.Matcher;
import java.util.regex.Pattern;

/** The public face, and those rules of LANGUAGE.md that can be seen by looking at the class or its text. */
public final class FaceTest {
    private static final Due due = new Due();
    private static final Path SOURCE = Path.of("src/main/java/GridQuarrels.java");
    private static final String[] METHODS = {
        "int row(int,int,int)", "int set(int,int,int)", "int copy(int,int,int,int,int)", "int drop(int)",
        "int feed(int)", "int county()", "int fault()", "int undo()",
        "int years(int)", "int hay(int,int)", "int grid(int,int)", "int drive(int,int)", "int grow(int,int)",
        "int quarrel(int,int)", "int road(int,int)", "int parish(int,int)",
        "int ahead(int,int,int)", "int hayAhead(int,int)", "int dies(int)", "int comes(int,int)", "int meet(int,int)",
        "int grazed(int)", "int shuts(int,int,int)", "int lures(int,int,int,int)", "int starve(int,int)",
        "int way(int,int)", "int reach(int)", "int home()", "int fed(int,int)", "int who(int,int,int,int,int)",
        "int grids(int,int,int,int,int)", "int which(int,int,int)", "long snow(int,int,int,int,int)",
        "int drawn(int,int,int)", "int image(int)", "int restore(int)",
        "int kind(int)", "int as(int,int)", "int ask(int,int)", "int trace(int)", "int count(int)", "int status()",
    };

    public static void main(String[] args) throws IOException {
        publicMethods();
        constantsAndConstructor();
        classesInside();
        wordsThatAreNotUsed();
        shortMethods();
        noObjectByACall();
        due.end();
    }

    private static void publicMethods() {
        Set<String> wanted = new TreeSet<>(Arrays.asList(METHODS));
        Set<String> seen = new TreeSet<>();
        Set<String> publicNames = new TreeSet<>();
        for (Method m : GridQuarrels.class.getDeclaredMethods()) {
            if (Modifier.isPublic(m.getModifiers())) {
                publicNames.add(m.getName());
                String types = Arrays.stream(m.getParameterTypes()).map(Class::getName).reduce((a, b) -> a + "," + b).orElse("");
                seen.add(m.getReturnType() + " " + m.getName() + "(" + types + ")");
            } else {
                due.that(m.getName() + " is private", Modifier.isPrivate(m.getModifiers()));
            }
        }
        due.that("the public methods: " + seen, seen.equals(wanted));
        for (Method m : GridQuarrels.class.getDeclaredMethods()) {
            boolean shared = !Modifier.isPublic(m.getModifiers()) && publicNames.contains(m.getName());
            due.that("no private method bears the name " + m.getName(), !shared);
        }
    }

    private static void constantsAndConstructor() {
        due.is("NONE", GridQuarrels.NONE, Due.NONE);
        due.is("BAD", GridQuarrels.BAD, Due.BAD);
        due.is("STATE", GridQuarrels.STATE, Due.STATE);
        due.is("FULL", GridQuarrels.FULL, Due.FULL);
        due.that("final", Modifier.isFinal(GridQuarrels.class.getModifiers()));
        Set<String> open = new TreeSet<>();
        for (Field f : GridQuarrels.class.getDeclaredFields()) {
            if (!Modifier.isPrivate(f.getModifiers())) {
                open.add(f.getName());
            }
            due.that(f.getName() + " is final, if static", !Modifier.isStatic(f.getModifiers()) || Modifier.isFinal(f.getModifiers()));
        }
        due.that("open fields: " + open, open.equals(Set.of("NONE", "BAD", "STATE", "FULL")));
        Constructor<?>[] makers = GridQuarrels.class.getDeclaredConstructors();
        due.that("one constructor", makers.length == 1 && Modifier.isPublic(makers[0].getModifiers()));
    }

    private static void classesInside() {
        Class<?>[] inside = GridQuarrels.class.getDeclaredClasses();
        due.that("at most twelve", inside.length <= 12);
        for (Class<?> c : inside) {
            due.that(c.getName() + " is static", Modifier.isStatic(c.getModifiers()));
            due.that(c.getName() + " is not public", !Modifier.isPublic(c.getModifiers()));
            long fields = Arrays.stream(c.getDeclaredFields()).filter(f -> !Modifier.isStatic(f.getModifiers())).count();
            due.that(c.getName() + " has " + fields + " fields", fields <= 20);
            membersInside(c);
        }
    }

    private static void membersInside(Class<?> c) {
        for (Method m : c.getDeclaredMethods()) {
            boolean onFace = Arrays.stream(METHODS).anyMatch(face -> face.contains(" " + m.getName() + "("));
            due.that("no method inside bears the name " + m.getName(), !onFace);
            due.that(m.getName() + " throws nothing", m.getExceptionTypes().length == 0);
        }
        for (Field f : c.getDeclaredFields()) {
            due.that(f.getName() + " is final, if static", !Modifier.isStatic(f.getModifiers()) || Modifier.isFinal(f.getModifiers()));
            due.that("a type that is allowed: " + f.getType().getName(), isAllowed(f.getType()));
        }
    }

    /** The class uses numbers, arrays of them and classes of its own alone. */
    private static boolean isAllowed(Class<?> type) {
        Class<?> part = type.isArray() ? type.getComponentType() : type;
        Class<?> item = part.isArray() ? part.getComponentType() : part;
        return item.isPrimitive() || item.getEnclosingClass() == GridQuarrels.class;
    }

    private static String code() throws IOException {
        String text = Files.readString(SOURCE, StandardCharsets.ISO_8859_1);
        return text.replaceAll("(?s)/\\*.*?\\*/", "").replaceAll("//[^\n]*", "");
    }

    private static void wordsThatAreNotUsed() throws IOException {
        String code = code();
        String[] words = {"throw", "throws", "try", "catch", "finally", "synchronized", "assert", "import", "package",
            "protected", "native", "volatile", "Object", "Thread", "Random", "hashCode", "toString", "var"};
        for (String word : words) {
            due.that(word + " is not used", !Pattern.compile("\\b" + word + "\\b").matcher(code).find());
        }
        for (String sign : new String[] {"->", "::", "Exact", "static {", "while (true)", "for (;;)"}) {
            due.that(sign + " is not used", !code.contains(sign));
        }
        due.that("characters 1 to 127", code.chars().allMatch(c -> c > 0 && c < 128));
    }

    private static void shortMethods() throws IOException {
        String code = code();
        Matcher heads = Pattern.compile("(?m)^( {4}(?: {4})?)(?! |if|for|switch)[a-zA-Z\\[\\] ]+\\(([^)]*)\\) \\{$").matcher(code);
        int seen = 0;
        while (heads.find()) {
            seen++;
            String end = "\n" + heads.group(1) + "}";
            long lines = code.substring(heads.start(), code.indexOf(end, heads.start())).lines().count();
            due.that(heads.group().strip() + " has " + lines + " lines", lines <= 60);
            due.that(heads.group().strip() + " has few parameters", heads.group(2).split(",").length <= 7);
        }
        due.that("methods are seen: " + seen, seen > METHODS.length);
    }

    /** All rows are made by the constructor: in one room a call could not afford its own. */
    private static void noObjectByACall() throws IOException {
        Matcher makes = Pattern.compile("(?m)^.*\\bnew \\w+.*$").matcher(code());
        while (makes.find()) {
            String line = makes.group().strip();
            boolean made = line.contains("final ") || line.equals("images[k] = new County();");
            due.that("made in a constructor: " + line, made);
        }
    }
}
