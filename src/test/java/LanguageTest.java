import java.io.IOException;
import java.lang.reflect.Constructor;
import java.lang.reflect.Field;
import java.lang.reflect.Method;
import java.lang.reflect.Modifier;
import java.nio.file.Files;
import java.nio.file.Path;
import java.util.HashSet;
import java.util.List;
import java.util.Set;
import java.util.TreeSet;
import java.util.regex.Pattern;

/** The face of the class, and LANGUAGE.md rule by rule, as far as a look at the text, at the classes and at the trees can tell. */
public final class LanguageTest {
    private static final Path SOURCE = Path.of("src/main/java/SaltStairs.java");
    private static final String[] FACE = {
        "int feed(int,int,int,int,int)", "int back(int)", "int read()", "int place()", "int step(int,int)",
        "int pilgrim(int,int)", "int wear(int,int,boolean)", "int go(int)", "int would(int,int)", "int night(int)",
        "int mend(int,int)", "boolean undo()", "int order(int,int)", "int orderAt(int,int)", "int need(int,int)",
        "int bears(int)", "long odds(int,int,int,int,int)", "int season(int,int)", "int rescue(int)", "int bell(int)",
        "int fair()", "int tell(int,int)", "int forget()", "int fits(int)", "int walkers(int,int)",
        "int who(int,boolean)", "boolean hold(int)", "boolean restore(int)", "int count(int)"};
    private static final String[] BANNED = {"throw", "throws", "try", "catch", "finally", "synchronized", "assert",
        "import", "package", "instanceof", "volatile", "transient", "native", "yield", "var", "record", "sealed",
        "equals", "hashCode", "toString", "Object", "Exception", "Thread", "Class", "Random", "printf", "println",
        "double", "float"};

    private LanguageTest() {
    }

    public static void main(String[] args) throws IOException {
        face();
        insides();
        words(Files.readString(SOURCE));
        new Rules(SOURCE).hold();
        Due.end();
    }

    private static void face() {
        Due.edge("rule 1");
        Set<String> methods = new TreeSet<>();
        for (Method m : SaltStairs.class.getDeclaredMethods()) {
            if (!Modifier.isPrivate(m.getModifiers()) && !m.isSynthetic()) {
                Due.due(m.getName() + " is public, of the object", m.getModifiers(), Modifier.PUBLIC);
                methods.add(shape(m));
            }
        }
        Due.due("the methods: " + methods, methods.equals(new TreeSet<>(List.of(FACE))), true);
        Constructor<?>[] made = SaltStairs.class.getDeclaredConstructors();
        Due.due("one constructor", made.length, 1);
        Due.due("without parameters, public", made[0].getParameterCount() + made[0].getModifiers(), Modifier.PUBLIC);
        Due.due("the class", SaltStairs.class.getModifiers(), Modifier.PUBLIC | Modifier.FINAL);
        for (Field f : SaltStairs.class.getDeclaredFields()) {
            boolean isFace = f.getName().equals("NONE");
            Due.due(f.getName() + " private or of the face", Modifier.isPrivate(f.getModifiers()), !isFace);
        }
    }

    private static String shape(Method m) {
        StringBuilder shape = new StringBuilder(m.getReturnType() + " " + m.getName() + "(");
        for (Class<?> p : m.getParameterTypes()) {
            shape.append(shape.charAt(shape.length() - 1) == '(' ? "" : ",").append(p.getName());
        }
        return shape.append(")").toString();
    }

    private static void insides() {
        Class<?>[] inside = SaltStairs.class.getDeclaredClasses();
        Due.edge("rule 11");
        Due.due("some twelve classes", inside.length + 1 <= 12, true);
        Set<String> names = new HashSet<>();
        for (Method m : SaltStairs.class.getMethods()) {
            names.add(m.getName());
        }
        for (Class<?> c : inside) {
            Due.edge("rule 2");
            Due.due(c + " is static", Modifier.isStatic(c.getModifiers()), true);
            Due.due(c + " is private", Modifier.isPrivate(c.getModifiers()), true);
            Due.edge("rule 1");
            for (Method m : c.getDeclaredMethods()) {
                Due.due(m + " has a name of its own", names.contains(m.getName()), false);
            }
            fields(c);
        }
        fields(SaltStairs.class);
    }

    private static void fields(Class<?> c) {
        Due.edge("rules 5 and 11");
        int many = 0;
        for (Field f : c.getDeclaredFields()) {
            boolean isStatic = Modifier.isStatic(f.getModifiers());
            many += isStatic ? 0 : 1;
            boolean isConstant = Modifier.isFinal(f.getModifiers())
                    && (f.getType() == int.class || f.getType() == String.class);
            Due.due(f + " is no static state", !isStatic || isConstant, true);
        }
        Due.due(c + " has some twenty fields", many <= 20, true);
    }

    private static void words(String source) {
        Due.edge("rules 3 to 6");
        Due.due("signs 1 to 127", source.chars().allMatch(c -> c > 0 && c < 128), true);
        String bare = source.replaceAll("(?s)/\\*.*?\\*/", "").replaceAll("//[^\n]*", "");
        String code = bare.replaceAll("\"[^\"\n]*\"", "\"\"").replaceAll("'.'", "' '");
        for (String word : BANNED) {
            Due.due("the word " + word, Pattern.compile("\\b" + word + "\\b").matcher(code).find(), false);
        }
        for (String sign : List.of("->", "::", "static {")) {
            Due.due("the sign " + sign, code.contains(sign), false);
        }
    }
}
