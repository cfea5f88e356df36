import java.io.IOException;
import java.lang.reflect.Constructor;
import java.lang.reflect.Field;
import java.lang.reflect.Method;
import java.lang.reflect.Modifier;
import java.nio.file.Files;
import java.nio.file.Path;
import java.util.ArrayList;
import java.util.Arrays;
import java.util.List;
import java.util.Set;
import java.util.TreeSet;
import java.util.regex.Matcher;
import java.util.regex.Pattern;

/** The public face, and what can be seen of LANGUAGE.md in the source and in the compiled classes. */
public final class FormTest {
    private static final String[] FACE = {
        "int feed(int,int,int,int,int) IllegalStateException",
        "int truncate(int) IllegalArgumentException",
        "int readText() IllegalArgumentException",
        "int runScript() IllegalArgumentException",
        "int errorCode()",
        "int errorPosition()",
        "int setting(int) IllegalArgumentException",
        "int port(int,int) IndexOutOfBoundsException IllegalArgumentException",
        "int packet(int,int,int) IndexOutOfBoundsException IllegalArgumentException",
        "int promise(int,int) IndexOutOfBoundsException IllegalArgumentException",
        "int owed(int,int) IndexOutOfBoundsException",
        "int drop(int,int) IllegalArgumentException",
        "int dropsBy(int) IllegalArgumentException",
        "int mostCharged()",
        "float lossShare()",
        "double meanForecast()",
        "int wouldBorrow(int,int) IndexOutOfBoundsException IllegalArgumentException",
        "int wouldCall(int,int) IndexOutOfBoundsException IllegalArgumentException",
        "int wouldDrop(int,int) IndexOutOfBoundsException IllegalArgumentException",
        "int greatest(int) IndexOutOfBoundsException",
        "int dropsIn(int) IllegalArgumentException",
        "int emptyIn()",
        "int sentIn(int,int) IndexOutOfBoundsException",
        "int arrive(int,int) IndexOutOfBoundsException IllegalArgumentException",
        "int tick(int) IllegalArgumentException",
        "int giveBack(int,int,int) IndexOutOfBoundsException IllegalArgumentException IllegalStateException",
        "int extend(int) IndexOutOfBoundsException IllegalStateException",
        "int setTerm(int) IllegalArgumentException",
        "int setKeep(int) IllegalArgumentException",
        "int undo()",
        "int report()",
        "int reportByte(int) IndexOutOfBoundsException",
        "int save()",
        "int restore() IllegalStateException",
    };

    private FormTest() {
    }

    public static void main(String[] args) throws IOException {
        face();
        members();
        source(Files.readString(Path.of(args.length > 0 ? args[0] : ".", "src/main/java/CellLoans.java")));
        Check.finish();
    }

    private static void fine(String what, boolean fine) {
        Check.same(what, fine ? 1 : 0, 1);
    }

    private static String told(Method m) {
        StringBuilder t = new StringBuilder(m.getReturnType().getName()).append(' ').append(m.getName()).append('(');
        for (int i = 0; i < m.getParameterCount(); i++) {
            t.append(i == 0 ? "" : ",").append(m.getParameterTypes()[i].getName());
        }
        t.append(')');
        for (Class<?> e : m.getExceptionTypes()) {
            t.append(' ').append(e.getSimpleName());
        }
        return t.toString();
    }

    private static void face() {
        Set<String> due = new TreeSet<>(Arrays.asList(FACE));
        Set<String> got = new TreeSet<>();
        for (Method m : CellLoans.class.getDeclaredMethods()) {
            if (!Modifier.isPrivate(m.getModifiers())) {
                fine(m.getName() + " is public and of an object", m.getModifiers() == Modifier.PUBLIC);
                got.add(told(m));
            }
        }
        fine("the face is " + got, got.equals(due));
        fine("the class is public and final", CellLoans.class.getModifiers() == (Modifier.PUBLIC | Modifier.FINAL));
        Check.same("NONE", CellLoans.NONE, -1);
    }

    private static void members() {
        Set<String> names = new TreeSet<>();
        for (String line : FACE) {
            names.add(line.substring(line.indexOf(' ') + 1, line.indexOf('(')));
        }
        List<Class<?>> all = new ArrayList<>(Arrays.asList(CellLoans.class.getDeclaredClasses()));
        fine("some twelve classes", all.size() <= 11);
        for (Class<?> inside : all) {
            fine(inside + " is private and static",
                    (inside.getModifiers() & (Modifier.PRIVATE | Modifier.STATIC)) == (Modifier.PRIVATE | Modifier.STATIC));
            for (Method m : inside.getDeclaredMethods()) {
                fine(inside + "." + m.getName() + " has a name of its own", !names.contains(m.getName()));
            }
        }
        for (Constructor<?> c : CellLoans.class.getDeclaredConstructors()) {
            fine("the constructor", c.getModifiers() == Modifier.PUBLIC && c.getParameterCount() == 0);
        }
        for (Method m : CellLoans.class.getDeclaredMethods()) {
            fine(m.getName() + " is no private method with a public name",
                    !Modifier.isPrivate(m.getModifiers()) || !names.contains(m.getName()));
        }
        all.add(CellLoans.class);
        for (Class<?> c : all) {
            int changing = 0;
            for (Field f : c.getDeclaredFields()) {
                boolean isStatic = Modifier.isStatic(f.getModifiers());
                fine(f + " is no static state", !isStatic || Modifier.isFinal(f.getModifiers()));
                fine(f + " is private or NONE", c != CellLoans.class || Modifier.isPrivate(f.getModifiers())
                        || f.getName().equals("NONE"));
                changing += isStatic ? 0 : 1;
            }
            fine(c + " has some twenty fields", changing <= 20);
        }
    }

    private static void source(String source) {
        fine("signs of the source", source.chars().allMatch(c -> c == '\n' || c >= 32 && c < 127));
        String code = source.replaceAll("(?s)/\\*.*?\\*/", "").replaceAll("//[^\n]*", "")
                .replaceAll("\"[^\"\n]*\"", "\"\"");
        String[] banned = {"import", "package", "catch", "try", "finally", "synchronized", "assert", "->", "::",
            "instanceof", "System", "Thread", "Random", "Exact", "\"\" +", "+ \"\"", "hashCode", "toString"};
        for (String word : banned) {
            String pattern = Character.isLetter(word.charAt(0)) ? "\\b" + word + "\\b" : Pattern.quote(word);
            fine("no " + word, !Pattern.compile(pattern).matcher(code).find());
        }
        Matcher thrown = Pattern.compile("throw new (\\w+)\\(\"\"\\);").matcher(code);
        int found = 0;
        while (thrown.find()) {
            found++;
            fine("throws " + thrown.group(1), Set.of("IllegalStateException", "IllegalArgumentException",
                    "IndexOutOfBoundsException").contains(thrown.group(1)));
        }
        Check.same("each throw has a written text", found, code.split("\\bthrow\\b", -1).length - 1);
        shortMethods(code);
    }

    private static void shortMethods(String code) {
        String[] lines = code.split("\n");
        Pattern head = Pattern.compile("^( {4}| {8})(?!(private |static |final )*class)\\w[^=;]*\\(([^)]*)\\).*\\{$");
        int methods = 0;
        for (int i = 0; i < lines.length; i++) {
            Matcher m = head.matcher(lines[i]);
            if (m.find() && !lines[i].matches(" *(if|for|while|switch|else).*")) {
                int end = i;
                while (end < lines.length && !lines[end].equals(m.group(1) + "}")) {
                    end++;
                }
                methods++;
                fine("short: " + lines[i].trim(), end - i <= 60);
                fine("seven parameters: " + lines[i].trim(), m.group(3).split(",").length <= 7);
            }
        }
        fine("methods were found: " + methods, methods > 100);
    }
}
