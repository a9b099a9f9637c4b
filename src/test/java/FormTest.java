import java.io.IOException;
import java.lang.reflect.Constructor;
import java.lang.reflect.Field;
import java.lang.reflect.Method;
import java.lang.reflect.Modifier;
import java.nio.file.Files;
import java.nio.file.Path;
import java.util.Set;
import java.util.TreeSet;
import java.util.regex.Matcher;
import java.util.regex.Pattern;

/** The face of the document, and those rules of LANGUAGE.md that can be read off the text or the class. */
public final class FormTest {
    private static final String[] FACE = {"int feed(int,int,int,int,int)", "boolean end(int)", "int registry()",
        "int fault(int)", "int has(int)", "int letter(int,int,int)", "int seat(int)", "int clerk(int,int)",
        "int drops(int,int)", "int matter(int,int)", "int leak(int,int,int)", "int kept(int,int)",
        "int later(int,int,int)", "int knows(int,int)", "int hears(int,int)", "int discreet(int,int,int)",
        "int pressed(int,int,int)", "int mops()", "int desks(int)", "int see()", "int sources(int,int)",
        "int tells(int,int,int)", "int tell(int,int,int)", "int squeeze(int)", "int rinse(int)", "int mop(int)",
        "boolean change(int,int)", "int days(int)", "int chance(int)", "boolean undo()", "boolean seed(int)",
        "long ask()", "int image()", "int octet(int)", "boolean on()", "int status(int)"};

    private FormTest() {
    }

    public static void main(String[] args) throws IOException {
        face();
        nested();
        text(Files.readString(Path.of("src/main/java/SpongeClerks.java")));
        Check.finish("FormTest");
    }

    private static String told(Method m) {
        StringBuilder text = new StringBuilder(m.getReturnType().getName() + " " + m.getName() + "(");
        for (int k = 0; k < m.getParameterCount(); k++) {
            text.append(k > 0 ? "," : "").append(m.getParameterTypes()[k].getName());
        }
        return text + ")";
    }

    private static void face() {
        Class<?> c = SpongeClerks.class;
        Check.due("public and final", c.getModifiers() & (Modifier.PUBLIC | Modifier.FINAL), 17);
        Set<String> methods = new TreeSet<>();
        for (Method m : c.getDeclaredMethods()) {
            if (!Modifier.isPrivate(m.getModifiers())) {
                Check.due(m + " is public alone", m.getModifiers(), Modifier.PUBLIC);
                methods.add(told(m));
            }
        }
        Check.due("the face: " + methods, methods.equals(new TreeSet<>(Set.of(FACE))), true);
        Set<String> fields = new TreeSet<>();
        for (Field f : c.getDeclaredFields()) {
            if (!Modifier.isPrivate(f.getModifiers())) {
                fields.add(f.getType() + " " + f.getName() + " " + f.getModifiers());
            }
        }
        Check.due("the constants: " + fields, fields.equals(Set.of("int NONE 25", "long NOTHING 25")), true);
        Check.due("NONE", SpongeClerks.NONE, -1);
        Check.due("NOTHING", SpongeClerks.NOTHING, -1000000000000000L);
        Constructor<?>[] made = c.getDeclaredConstructors();
        Check.due("one constructor", made.length, 1);
        Check.due("which is public", made[0].getModifiers(), Modifier.PUBLIC);
        Check.due("and takes nothing", made[0].getParameterCount(), 0);
    }

    private static void nested() {
        Set<String> names = new TreeSet<>();
        for (String row : FACE) {
            names.add(row.replaceAll("^\\w+ |\\(.*", ""));
        }
        Check.due("some twelve classes", SpongeClerks.class.getDeclaredClasses().length <= 12, true);
        for (Method m : SpongeClerks.class.getDeclaredMethods()) {
            boolean own = Modifier.isPrivate(m.getModifiers());
            Check.due("rule 1: " + m, own && names.contains(m.getName()), false);
            Check.due("rule 11: " + m, m.getParameterCount() <= 7, true);
        }
        for (Class<?> c : SpongeClerks.class.getDeclaredClasses()) {
            Check.due("rule 1: " + c + " is static", Modifier.isStatic(c.getModifiers()), true);
            Check.due("rule 1: " + c + " is private", Modifier.isPrivate(c.getModifiers()), true);
            Check.due("rule 11: fields of " + c, c.getDeclaredFields().length <= 20, true);
            for (Method m : c.getDeclaredMethods()) {
                Check.due("rule 1: " + m, names.contains(m.getName()), false);
                Check.due("rule 11: " + m, m.getParameterCount() <= 7, true);
            }
        }
    }

    private static void text(String text) {
        String code = text.replaceAll("(?s)/\\*.*?\\*/", "").replaceAll("//[^\n]*", "");
        String[] ruledOut = {"\\b(throw|throws|try|catch|synchronized|assert|import|package|native|volatile)\\b",
            "->", "::", "\\b(equals|hashCode|toString|getClass|Object|Iterator|Thread|Random)\\b", "Exact\\b",
            "static\\s*\\{", "\"\\s*\\+|\\+\\s*\"", "\\bprotected\\b", "while\\s*\\(\\s*true", "for\\s*\\(\\s*;\\s*;",
            "\\b(double|float)\\b", "[^\\x00-\\x7f]"};
        for (String sign : ruledOut) {
            Matcher m = Pattern.compile(sign).matcher(code);
            Check.due("ruled out: " + sign + (m.find() ? " at " + code.substring(m.start()).lines().findFirst() : ""),
                    m.reset().find(), false);
        }
        Matcher m = Pattern.compile("\\n( {4}| {8})(?=\\S)[^\\n;=]*\\)\\s*\\{\\n(.*?)\\n\\1\\}", Pattern.DOTALL).matcher(code);
        int methods = 0;
        while (m.find()) {
            methods++;
            Check.due("rule 11: a long method: " + m.group().trim().lines().findFirst(), m.group(2).lines().count() <= 60, true);
        }
        Check.due("methods were found", methods > 100, true);
    }
}
