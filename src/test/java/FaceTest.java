import java.io.IOException;
import java.lang.reflect.Constructor;
import java.lang.reflect.Field;
import java.lang.reflect.Method;
import java.lang.reflect.Modifier;
import java.nio.file.Files;
import java.nio.file.Path;
import java.util.Arrays;
import java.util.Set;
import java.util.TreeSet;
import java.util.regex.Matcher;
import java.util.regex.Pattern;
import java.util.stream.Collectors;

/** The public face, no more and no less, and what of LANGUAGE.md can be seen by a machine. */
public final class FaceTest {
    private static final String[] FACE = {
        "int tower(int)", "int method(int,int)", "int type(int)", "int clear()", "int read()",
        "int slips(int,int,int)", "int drops(int)", "int hands(int,int)", "int year(int)", "int undo()", "int of(int,int)",
        "int row(int,int)", "int repeats(int)", "int clash(int)", "int mend()", "int compose()", "int when()", "int clean()",
        "int heard(int,int)", "int who(int)", "int tell()", "int note(int,int,int)", "int mark(int,int,int,int)",
        "int forget(int)", "int is(int)", "int look(int)", "int kinds(int)", "int ask(int)", "int lends(int,int)",
        "int odds(int)", "int weddings(int,int)", "long part(int)", "int image(int)", "int from(int)", "int status(int)",
        "int count(int)", "long digest()"};
    private static final String[] BANNED = {
        "throw", "throws", "try", "catch", "finally", "synchronized", "assert", "native", "volatile", "transient", "protected",
        "System.out", "System.err", "System.currentTimeMillis", "System.nanoTime", "Random", "Thread", "equals", "hashCode",
        "toString", "var", "String.format", "Object", "super"};

    private static final Checks c = new Checks();

    public static void main(String[] args) throws IOException {
        constants();
        constructors();
        methods();
        classesInside();
        source();
        c.end();
    }

    private static void constants() {
        int[] values = {HandedSlips.NONE, HandedSlips.BAD, HandedSlips.NO, HandedSlips.FULL};
        c.holds("the values of the constants", Arrays.equals(values, new int[] {-1, -2, -3, -4}));
        Set<String> open = new TreeSet<>();
        for (Field f : HandedSlips.class.getDeclaredFields()) {
            if (!Modifier.isPrivate(f.getModifiers())) {
                open.add(Modifier.toString(f.getModifiers()) + " " + f.getType() + " " + f.getName());
            }
            if (Modifier.isStatic(f.getModifiers())) {
                c.holds("the static field " + f.getName() + " is final", Modifier.isFinal(f.getModifiers()));
            }
        }
        Set<String> due = new TreeSet<>();
        for (String name : new String[] {"NONE", "BAD", "NO", "FULL"}) {
            due.add("public static final int " + name);
        }
        c.holds("the constants of the face: " + open, open.equals(due));
    }

    private static void constructors() {
        Constructor<?>[] all = HandedSlips.class.getDeclaredConstructors();
        c.due("constructors", all.length, 1);
        c.due("its parameters", all[0].getParameterCount(), 0);
        c.due("it is public", all[0].getModifiers(), Modifier.PUBLIC);
        c.due("public and final, the class", HandedSlips.class.getModifiers(), Modifier.PUBLIC | Modifier.FINAL);
        c.holds("it extends none", HandedSlips.class.getSuperclass() == Object.class);
        c.due("it implements none", HandedSlips.class.getInterfaces().length, 0);
        c.holds("it has no package", HandedSlips.class.getPackageName().isEmpty());
    }

    private static void methods() {
        Set<String> open = new TreeSet<>();
        for (Method m : HandedSlips.class.getDeclaredMethods()) {
            if (!Modifier.isPrivate(m.getModifiers())) {
                open.add(signature(m));
                c.due(m.getName() + " is public and no more", m.getModifiers(), Modifier.PUBLIC);
            }
        }
        c.holds("the methods of the face: " + open, open.equals(new TreeSet<>(Arrays.asList(FACE))));
    }

    private static String signature(Method m) {
        String types = Arrays.stream(m.getParameterTypes()).map(Class::getName).collect(Collectors.joining(","));
        return m.getReturnType().getName() + " " + m.getName() + "(" + types + ")";
    }

    private static void classesInside() {
        Set<String> names = new TreeSet<>();
        for (String signature : FACE) {
            names.add(signature.substring(signature.indexOf(' ') + 1, signature.indexOf('(')));
        }
        Class<?>[] inside = HandedSlips.class.getDeclaredClasses();
        c.holds("some twelve classes", inside.length <= 12);
        for (Class<?> k : inside) {
            int flags = k.getModifiers();
            c.holds(k.getName() + " is static", Modifier.isStatic(flags));
            c.holds(k.getName() + " is not open", !Modifier.isPublic(flags) && !Modifier.isProtected(flags));
            for (Method m : k.getDeclaredMethods()) {
                c.holds(k.getName() + "." + m.getName() + " bears no name of the face", !names.contains(m.getName()));
                c.holds(k.getName() + "." + m.getName() + " takes seven at most", m.getParameterCount() <= 7);
            }
        }
        for (Method m : HandedSlips.class.getDeclaredMethods()) {
            boolean closed = Modifier.isPrivate(m.getModifiers());
            c.holds(m.getName() + " is no private name of the face", !closed || !names.contains(m.getName()));
        }
    }

    private static void source() throws IOException {
        String text = Files.readString(Path.of("src/main/java/HandedSlips.java"));
        c.holds("signs 1 to 127 alone", text.chars().allMatch(sign -> sign >= 1 && sign <= 127));
        String code = text.replaceAll("(?s)/\\*.*?\\*/", " ").replaceAll("//[^\n]*", " ").replaceAll("\"[^\"\n]*\"", "\"\"");
        for (String word : BANNED) {
            Matcher found = Pattern.compile("(?<![A-Za-z0-9_.])" + Pattern.quote(word) + "(?![A-Za-z0-9_])").matcher(code);
            c.holds("no " + word, !found.find());
        }
        c.holds("no lambda, no method reference", !code.contains("->") && !code.contains("::"));
        c.holds("no static initialiser", !Pattern.compile("static\\s*\\{").matcher(code).find());
        Matcher imports = Pattern.compile("import[^;]*;").matcher(code);
        while (imports.find()) {
            c.holds(imports.group(), imports.group().equals("import java.util.Arrays;"));
        }
        Matcher library = Pattern.compile("(?<![A-Za-z0-9_])(Arrays|System|Math|Integer|Long)\\.([A-Za-z]+)").matcher(code);
        Set<String> allowed = Set.of("Arrays.fill", "Arrays.copyOf", "Arrays.copyOfRange", "System.arraycopy", "Math.min", "Math.max",
            "Math.abs", "Integer.bitCount");
        while (library.find()) {
            c.holds(library.group(), allowed.contains(library.group()));
        }
    }
}
