import java.lang.reflect.Constructor;
import java.lang.reflect.Field;
import java.lang.reflect.Method;
import java.lang.reflect.Modifier;
import java.nio.file.Files;
import java.nio.file.Path;
import java.util.ArrayList;
import java.util.List;
import java.util.Set;
import java.util.TreeSet;
import java.util.regex.Matcher;
import java.util.regex.Pattern;

/** The rules of LANGUAGE.md that can be told from the class itself or from its text. */
public final class RulesTest {
    private static final Set<String> FACE = Set.of(
        "int state(int)", "int deer(int,int)", "boolean set(int,int,int)", "boolean eat(int,boolean)", "int days(int)", "int waitFor(int)",
        "int feed(int,int,int,int,int)", "boolean end(int)", "int text(int)", "int fault(int)", "int of(int,int)", "int due(int,int)",
        "int book(int,int)", "int next(int,int)", "int likeliest()", "int goes(int,int)", "int reads(int)", "int seen(int,int)", "int orders(int)",
        "int moves(int)", "int work(int)", "int works(int)", "int gate(int,int)", "int watch(int)", "int ate(int,int)", "int ways(int)", "int vote(int)",
        "int votes(int)", "int salts(int,int)", "int nods(int,int)", "int game(int)", "boolean undo()", "boolean image(boolean)", "int look(int)");

    private static final String[] BANNED = {
        "\\bthrow\\b", "\\btry\\b", "\\bcatch\\b", "\\bsynchronized\\b", "\\bassert\\b", "->", "::", "\\bpackage\\b", "\\bException\\b", "Error\\b",
        "Exact\\b", "\\bvar\\b", "\\bString\\.", "\\bSystem\\.(?!arraycopy)", "\\bMAX_VALUE\\b", "\\bMIN_VALUE\\b", "\\bstatic\\s*\\{", "\\bnull\\s*\\)\\s*;"};

    public static void main(String[] args) throws Exception {
        face();
        inside();
        source();
        Check.finish();
    }

    private static void fine(String what, boolean is) {
        Check.due(what, is, true);
    }

    private static String told(Method m) {
        List<String> types = new ArrayList<>();
        for (Class<?> type : m.getParameterTypes()) {
            types.add(type.getSimpleName());
        }
        return m.getReturnType().getSimpleName() + " " + m.getName() + "(" + String.join(",", types) + ")";
    }

    private static void face() throws Exception {
        Class<?> c = DeerDays.class;
        fine("public final", Modifier.isPublic(c.getModifiers()) && Modifier.isFinal(c.getModifiers()));
        Set<String> open = new TreeSet<>();
        Set<String> names = new TreeSet<>();
        for (Method m : c.getDeclaredMethods()) {
            if (!Modifier.isPrivate(m.getModifiers())) {
                open.add(told(m));
                names.add(m.getName());
                fine("public: " + m, Modifier.isPublic(m.getModifiers()) && !Modifier.isStatic(m.getModifiers()));
            }
        }
        fine("the face " + open, open.equals(new TreeSet<>(FACE)));
        for (Class<?> in : c.getDeclaredClasses()) {
            for (Method m : in.getDeclaredMethods()) {
                fine("a name of the face inside: " + m, !names.contains(m.getName()));
            }
        }
        for (Method m : c.getDeclaredMethods()) {
            fine("a private one with a public name: " + m, !Modifier.isPrivate(m.getModifiers()) || !names.contains(m.getName()));
        }
        Constructor<?>[] made = c.getDeclaredConstructors();
        fine("one constructor", made.length == 1 && Modifier.isPublic(made[0].getModifiers()) && made[0].getParameterCount() == 0);
        for (Field f : c.getDeclaredFields()) {
            boolean isConstant = f.getName().equals("NONE") && Modifier.isPublic(f.getModifiers()) && Modifier.isStatic(f.getModifiers());
            fine("field " + f, Modifier.isPrivate(f.getModifiers()) || isConstant);
        }
        fine("NONE", DeerDays.class.getField("NONE").getInt(null) == -1);
    }

    private static void inside() {
        Class<?>[] classes = DeerDays.class.getDeclaredClasses();
        fine("some twelve classes", classes.length + 1 <= 12);
        List<Class<?>> all = new ArrayList<>(List.of(classes));
        all.add(DeerDays.class);
        for (Class<?> c : all) {
            int fields = 0;
            fine("static inside " + c, c == DeerDays.class || Modifier.isStatic(c.getModifiers()));
            for (Field f : c.getDeclaredFields()) {
                boolean isStatic = Modifier.isStatic(f.getModifiers());
                fine("static is final " + f, !isStatic || Modifier.isFinal(f.getModifiers()));
                fields += isStatic ? 0 : 1;
            }
            fine("some twenty fields " + c, fields <= 20);
            for (Method m : c.getDeclaredMethods()) {
                fine("seven parameters " + m, m.getParameterCount() <= 7);
            }
        }
    }

    private static void source() throws Exception {
        String text = Files.readString(Path.of("src/main/java/DeerDays.java"));
        String code = text.replaceAll("(?s)/\\*.*?\\*/", "").replaceAll("//[^\n]*", "");
        for (String banned : BANNED) {
            Matcher m = Pattern.compile(banned).matcher(code.replaceAll("\"[^\"]*\"", "\"\""));
            fine("banned " + banned, !m.find());
        }
        fine("signs 1 to 127", text.chars().allMatch(c -> c > 0 && c < 128));
        Matcher imports = Pattern.compile("(?m)^import (.*);").matcher(code);
        while (imports.find()) {
            fine("import " + imports.group(1), imports.group(1).equals("java.util.Arrays"));
        }
        fine("objects are made in constructors alone", code.split("\\bnew\\b", -1).length - 1 == madeAtStart(code));
        methodsStayShort(code);
    }

    /** What is made stands in a field's initialiser or in a constructor; no call makes anything. */
    private static int madeAtStart(String code) {
        int made = 0;
        for (String line : code.split("\n")) {
            if (line.matches("\\s+(private )?final .*= new .*") || line.matches("\\s+(this\\.)?\\w+(\\[i\\])? = new .*")) {
                made++;
            }
        }
        return made;
    }

    private static void methodsStayShort(String code) {
        int start = -1;
        String[] lines = code.split("\n");
        for (int i = 0; i < lines.length; i++) {
            if (start < 0 && lines[i].matches(" {4}( {4})?\\S.*\\) \\{")) {
                start = i;
            } else if (start >= 0 && lines[i].matches(" {4}( {4})?\\}") && lines[i].indexOf('}') == indent(lines[start])) {
                fine("some sixty lines: " + lines[start].trim(), i - start < 60);
                start = -1;
            }
        }
    }

    private static int indent(String line) {
        return line.length() - line.stripLeading().length();
    }
}
