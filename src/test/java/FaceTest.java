import java.lang.reflect.Constructor;
import java.lang.reflect.Field;
import java.lang.reflect.Method;
import java.lang.reflect.Modifier;
import java.nio.file.Files;
import java.nio.file.Path;
import java.util.ArrayList;
import java.util.HashSet;
import java.util.List;
import java.util.Set;
import java.util.TreeSet;
import java.util.regex.Matcher;
import java.util.regex.Pattern;

/** The face of the document and no other, and those rules of LANGUAGE.md that can be looked up. */
public final class FaceTest {
    private static final String FACE = "int feed(long, long, long); int fjord(); int cell(int, int, int); int pourer(int, int); "
        + "int load(int, int); boolean pour(int, int, int); boolean over(int, int); boolean undo(); int hours(int); int thin(int); "
        + "int until(int, int); int carried(int, int); int built(int, int, int); int best(int); int half(int, int); "
        + "int rests(int, int); int guess(int, int, int, int); int queue(int, int); int toll(int, int); int sound(int, int); "
        + "int heard(int, int, int); int value(int); boolean share(int, int); int leaves(); boolean stump(int, int, int); "
        + "int fits(int, int, int, int, int); int salted(int, int, int); int winter(int, int, int, int); "
        + "boolean mark(int, boolean); int count(int)";

    private FaceTest() {
    }

    public static void main(String[] args) throws Exception {
        face();
        insides();
        source();
        Due.end();
    }

    private static String signature(Method m) {
        List<String> types = new ArrayList<>();
        for (Class<?> c : m.getParameterTypes()) {
            types.add(c.getSimpleName());
        }
        return m.getReturnType().getSimpleName() + " " + m.getName() + "(" + String.join(", ", types) + ")";
    }

    private static void face() throws Exception {
        Due.is("public and final", Modifier.PUBLIC | Modifier.FINAL, IceBridge.class.getModifiers());
        Set<String> want = new TreeSet<>(List.of(FACE.split("; ")));
        Set<String> got = new TreeSet<>();
        Set<String> names = new HashSet<>();
        for (Method m : IceBridge.class.getDeclaredMethods()) {
            if (Modifier.isPublic(m.getModifiers())) {
                got.add(signature(m));
                names.add(m.getName());
                Due.is(m.getName() + " is no static one", false, Modifier.isStatic(m.getModifiers()));
            }
        }
        Due.is("the face is " + got, true, want.equals(got));
        for (Method m : IceBridge.class.getDeclaredMethods()) {
            boolean ours = Modifier.isPrivate(m.getModifiers());
            Due.is(m.getName() + " is public or private", true, ours || Modifier.isPublic(m.getModifiers()));
            Due.is(m.getName() + " bears no name of the face", false, ours && names.contains(m.getName()));
        }
        for (Field f : IceBridge.class.getDeclaredFields()) {
            boolean isNone = f.getName().equals("NONE");
            Due.is(f.getName() + " is private", !isNone, Modifier.isPrivate(f.getModifiers()));
        }
        Constructor<?>[] made = IceBridge.class.getDeclaredConstructors();
        Due.is("one constructor", 1, made.length);
        Due.is("which is public", true, Modifier.isPublic(made[0].getModifiers()));
        Class<?>[] thrown = IceBridge.class.getMethod("toll", int.class, int.class).getExceptionTypes();
        Due.is("toll throws", true, thrown.length == 1 && thrown[0] == java.util.NoSuchElementException.class);
    }

    private static void insides() {
        Set<String> names = new HashSet<>();
        for (String s : FACE.split("; ")) {
            names.add(s.substring(s.indexOf(' ') + 1, s.indexOf('(')));
        }
        List<Class<?>> all = new ArrayList<>(List.of(IceBridge.class.getDeclaredClasses()));
        Due.is("some twelve classes", true, all.size() <= 11);
        for (Class<?> c : all) {
            Due.is(c + " is static", true, Modifier.isStatic(c.getModifiers()));
            Due.is(c + " is not public", false, Modifier.isPublic(c.getModifiers()));
            int fields = 0;
            for (Field f : c.getDeclaredFields()) {
                boolean fixed = Modifier.isStatic(f.getModifiers());
                Due.is(f + " is final if it is static", true, !fixed || Modifier.isFinal(f.getModifiers()));
                fields += fixed ? 0 : 1;
            }
            Due.is(c + " has some twenty fields: " + fields, true, fields <= 21);
            for (Method m : c.getDeclaredMethods()) {
                Due.is(m + " bears no name of the face", false, names.contains(m.getName()));
                Due.is(m + " takes at most seven", true, m.getParameterCount() <= 7);
            }
        }
    }

    private static void source() throws Exception {
        String text = Files.readString(Path.of("src/main/java/IceBridge.java"));
        Due.is("signs 10 and 32 to 126 alone", true, text.matches("[\\n\\x20-\\x7e]*"));
        String[] banned = {"->", "::", "\\btry\\b", "\\bcatch\\b", "\\bfinally\\b", "\\bsynchronized\\b", "\\bassert\\b", "\\bstatic \\{",
            "\\binstanceof\\b", "System\\.(?!arraycopy)", "\\bObject\\b", "Exact\\(", "\\bgoto\\b", "\\bdouble\\b", "\\bfloat\\b"};
        for (String b : banned) {
            Matcher m = Pattern.compile(b).matcher(text.replaceAll("/\\*\\*(?s:.*?)\\*/|//.*", ""));
            Due.is("the source has " + b, false, m.find());
        }
        Matcher imports = Pattern.compile("import ([^;]+);").matcher(text);
        while (imports.find()) {
            boolean known = List.of("java.util.Arrays", "java.util.NoSuchElementException").contains(imports.group(1));
            Due.is("import " + imports.group(1), true, known);
        }
        Matcher thrown = Pattern.compile("throw new (\\w+)").matcher(text);
        while (thrown.find()) {
            Due.is("throws " + thrown.group(1), true, thrown.group(1).equals("NoSuchElementException"));
        }
        longMethods(text);
    }

    /** A method of the face ends at four blanks and a bracket, one of a class inside at eight. */
    private static void longMethods(String text) {
        String[] lines = text.split("\n");
        int begun = 0;
        for (int i = 0; i < lines.length; i++) {
            if (lines[i].matches("( {4}| {8})[A-Za-z].*\\) (throws \\w+ )?\\{")) {
                begun = i;
            }
            if (lines[i].matches("( {4}| {8})\\}")) {
                Due.is("the method behind line " + begun + " is short", true, i - begun <= 60 || begun == 0);
                begun = i;
            }
        }
    }
}
