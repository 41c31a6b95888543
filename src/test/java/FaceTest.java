import java.lang.reflect.Method;
import java.lang.reflect.Modifier;
import java.nio.file.Files;
import java.nio.file.Path;
import java.util.ArrayList;
import java.util.List;
import java.util.Set;
import java.util.TreeSet;
import java.util.regex.Matcher;
import java.util.regex.Pattern;

/** The public face, and those rules of LANGUAGE.md that can be seen from outside or from the text. */
public final class FaceTest {
    private static final String FACE = "int read(int,int,int)|int height(int,int)|int peak(int)|int strip(int,int,int)|int of(int,int)|"
        + "int lose(int)|int draw(int,int,int)|int stands(int)|int table(int,int,int)|int wet(int,int)|int harvest(int,int)|"
        + "int foretold(int,int)|int feed(int,int,int,int,int)|int end(int)|int decrees()|int fault()|int tax(int,int,int)|"
        + "int take(int,int,int,int)|long gain(int,int)|int sheaves(int)|int led(int,int,int)|int count(int)|int status()";

    private static final Set<String> CONSTANTS = Set.of("int", "long", "boolean", "char", "String", "int[]", "long[]", "char[]", "byte[]");

    public static void main(String[] args) throws Exception {
        members();
        nestedClasses();
        sourceWords();
        Check.due("NONE", FloodTax.NONE, -1);
        Check.finish();
    }

    private static void members() {
        Check.holds("a final class", Modifier.isFinal(FloodTax.class.getModifiers()));
        Set<String> seen = new TreeSet<>();
        Set<String> open = new TreeSet<>();
        List<Method> hidden = new ArrayList<>();
        for (Method m : FloodTax.class.getDeclaredMethods()) {
            if (Modifier.isPrivate(m.getModifiers())) {
                hidden.add(m);
            } else {
                List<String> types = new ArrayList<>();
                for (Class<?> c : m.getParameterTypes()) {
                    types.add(c.getName());
                }
                seen.add(m.getReturnType() + " " + m.getName() + "(" + String.join(",", types) + ")");
                open.add(m.getName());
            }
        }
        Check.holds("the face is " + seen, seen.equals(new TreeSet<>(List.of(FACE.split("\\|")))));
        for (Method m : hidden) {
            Check.holds("a name of its own: " + m.getName(), !open.contains(m.getName()));
        }
        for (var f : FloodTax.class.getDeclaredFields()) {
            Check.holds("a hidden field: " + f.getName(), f.getName().equals("NONE") || Modifier.isPrivate(f.getModifiers()));
        }
        Check.due("constructors", FloodTax.class.getDeclaredConstructors().length, 1);
    }

    private static void nestedClasses() {
        Class<?>[] nested = FloodTax.class.getDeclaredClasses();
        Check.holds("at most twelve classes", nested.length < 12);
        limits(FloodTax.class);
        for (Class<?> c : nested) {
            Check.holds("static: " + c, Modifier.isStatic(c.getModifiers()) && !Modifier.isPublic(c.getModifiers()));
            Check.due("classes inside " + c, c.getDeclaredClasses().length, 0);
            limits(c);
        }
    }

    /** Rules 1, 5 and 11 for one class: names, static fields, parameters, fields. */
    private static void limits(Class<?> c) {
        Set<String> face = new TreeSet<>();
        for (String call : FACE.split("\\|")) {
            face.add(call.replaceAll(".* (\\w+)\\(.*", "$1"));
        }
        for (Method m : c.getDeclaredMethods()) {
            Check.holds("at most seven parameters: " + m, m.getParameterCount() <= 7);
            Check.holds("no name of the face: " + m, c == FloodTax.class || !face.contains(m.getName()));
        }
        int fields = 0;
        for (var f : c.getDeclaredFields()) {
            if (Modifier.isStatic(f.getModifiers())) {
                Check.holds("a constant: " + f, Modifier.isFinal(f.getModifiers()) && CONSTANTS.contains(f.getType().getSimpleName()));
            } else {
                fields++;
            }
        }
        Check.holds("at most twenty fields: " + c, fields <= 20);
    }

    private static void sourceWords() throws Exception {
        String path = System.getProperty("floodtax.source", "src/main/java/FloodTax.java");
        String code = Files.readString(Path.of(path)).replaceAll("(?s)/\\*.*?\\*/", "").replaceAll("//[^\n]*", "");
        Pattern ruledOut = Pattern.compile("\\b(throw|throws|try|catch|synchronized|assert|import|package|System|Object|protected|[a-z]+Exact)\\b|->|::");
        Matcher m = ruledOut.matcher(code);
        while (m.find()) {
            Check.holds("not in the source: " + m.group(), false);
        }
        Check.holds("one public class", code.split("\\bpublic\\b.*\\bclass\\b", -1).length == 2);
    }
}
