import java.io.IOException;
import java.lang.reflect.Constructor;
import java.lang.reflect.Field;
import java.lang.reflect.Method;
import java.lang.reflect.Modifier;
import java.nio.file.Files;
import java.nio.file.Path;
import java.util.ArrayList;
import java.util.Arrays;
import java.util.Collections;
import java.util.List;
import java.util.regex.Matcher;
import java.util.regex.Pattern;

/** What of LANGUAGE.md, and of the document's face, can be seen from the class and its source. */
public final class LanguageTest {
    private static final String[] FACE = {
        "well()", "going(iii)", "set(iii)", "ofWell(ii)", "goings(i)", "thing(ii)", "ofThing(ii)", "as(ii)", "let(ii)", "fish(i)",
        "feed(li)", "text(i)", "law(iiiii)", "days(i)", "floods(i)", "then(iii)", "in(ii)", "seen(iii)", "round(ii)", "soon(iii)",
        "cheap(iii)", "rings(i)", "meet(ii)", "tenth()", "find(iii)", "forget()", "agrees(i)", "belows(iii)", "cork(iiii)", "seed(i)",
        "voice(iii)", "trace(i)", "sheet(iii)", "put(iii)", "move(iiiii)", "image()", "restore()", "tell(i)", "check(i)", "count(i)", "told(i)"};
    private static final String[] BANNED = {"throw", "throws", "try", "catch", "finally", "synchronized", "assert", "volatile", "transient", "native", "import", "package",
        "protected", "var", "yield", "double", "float", "Object", "Exception", "Error", "Random", "Thread", "Runnable", "System\\.(?!arraycopy)", "while\\s*\\(\\s*true", "\\w+Exact"};

    private static int passed;
    private static int failed;

    private static void ok(String what, boolean is) {
        if (is) {
            passed++;
        } else {
            failed++;
            System.out.println("not so: " + what);
        }
    }

    private static String form(Method m) {
        StringBuilder b = new StringBuilder(m.getName()).append('(');
        for (Class<?> p : m.getParameterTypes()) b.append(p == int.class ? 'i' : p == long.class ? 'l' : '?');
        return b.append(')').toString();
    }

    private static void face() {
        ok("public and final", Modifier.isPublic(NineWells.class.getModifiers()) && Modifier.isFinal(NineWells.class.getModifiers()));
        List<String> open = new ArrayList<>();
        for (Method m : NineWells.class.getDeclaredMethods()) {
            if (Modifier.isPrivate(m.getModifiers()) || m.isSynthetic()) continue;
            open.add(form(m));
            ok(m + " is a public method that answers an int", Modifier.isPublic(m.getModifiers()) && !Modifier.isStatic(m.getModifiers()) && m.getReturnType() == int.class);
        }
        List<String> face = new ArrayList<>(Arrays.asList(FACE));
        Collections.sort(open);
        Collections.sort(face);
        ok("the face is the document's: " + open, open.equals(face));
        for (Constructor<?> c : NineWells.class.getDeclaredConstructors()) ok("one constructor, without arguments", Modifier.isPublic(c.getModifiers()) && c.getParameterCount() == 0);
        for (Field f : NineWells.class.getDeclaredFields()) ok(f + " is private", Modifier.isPrivate(f.getModifiers()));
    }

    private static List<Class<?>> classes() {
        List<Class<?>> all = new ArrayList<>(Arrays.asList(NineWells.class.getDeclaredClasses()));
        all.add(NineWells.class);
        return all;
    }

    private static void insides() {
        List<String> names = new ArrayList<>();
        for (String f : FACE) names.add(f.substring(0, f.indexOf('(')));
        ok("at most twelve classes", classes().size() <= 12);
        for (Class<?> c : classes()) {
            if (c != NineWells.class) ok(c + " is static, and not public", Modifier.isStatic(c.getModifiers()) && !Modifier.isPublic(c.getModifiers()));
            ok(c + " has none inside of its own", c == NineWells.class || c.getDeclaredClasses().length == 0);
            int fields = 0;
            for (Field f : c.getDeclaredFields()) {
                if (Modifier.isStatic(f.getModifiers())) ok(f + " is final", Modifier.isFinal(f.getModifiers()));
                else fields++;
            }
            ok(c + " has at most twenty fields", fields <= 20);
            for (Method m : c.getDeclaredMethods()) {
                ok(m + " has at most seven parameters", m.getParameterCount() <= 7);
                boolean isFace = c == NineWells.class && Modifier.isPublic(m.getModifiers());
                ok(m + " doesn't bear a name of the face", isFace || !names.contains(m.getName()));
            }
        }
    }

    private static String bare(String source) {
        return source.replaceAll("(?s)/\\*.*?\\*/", "").replaceAll("//[^\n]*", "").replaceAll("'(\\\\.|[^'])'", "0").replaceAll("\"[^\"]*\"", "T");
    }

    private static void words(String source) {
        for (String word : BANNED) ok("no " + word, !Pattern.compile("\\b" + word + (word.endsWith(")") ? "" : "\\b")).matcher(source).find());
        ok("no arrow", !source.contains("->"));
        ok("no method reference", !source.contains("::"));
        ok("no question of equals, hashCode, toString", !source.contains("equals(") && !source.contains("hashCode(") && !source.contains("toString("));
        ok("one public class", source.split("public final class").length == 2);
        ok("no static block", !Pattern.compile("static\\s*\\{").matcher(source).find());
    }

    private static void lengths(String source) {
        String[] lines = source.split("\n");
        Pattern begins = Pattern.compile("^( {4}| {8})(?:(?:public|private|static|final) )*[\\w\\[\\]]+(?: \\w+)?\\(.*\\{$");
        for (int i = 0; i < lines.length; i++) {
            Matcher m = begins.matcher(lines[i]);
            if (!m.matches()) continue;
            int end = i;
            while (end < lines.length && !lines[end].equals(m.group(1) + "}")) end++;
            ok(lines[i].trim() + " is short", end - i <= 60);
        }
    }

    /** Objects are made in constructors and for fields alone, so calls take no room. */
    private static void made(String source) {
        Matcher m = Pattern.compile("[^\n]*\\bnew\\b[^\n]*").matcher(source);
        while (m.find()) {
            String line = m.group().trim();
            ok(line + " is of a field", line.startsWith("final ") || line.startsWith("private final ") || line.matches("\\w+(\\[i\\])? = new .*"));
        }
    }

    public static void main(String[] args) throws IOException {
        String source = bare(Files.readString(Path.of("src/main/java/NineWells.java")));
        face();
        insides();
        words(source);
        lengths(source);
        made(source);
        System.out.println("LanguageTest: " + passed + " passed, " + failed + " failed");
        if (failed != 0) System.exit(1);
    }
}
