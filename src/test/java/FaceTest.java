import java.lang.reflect.Method;
import java.lang.reflect.Modifier;
import java.nio.file.Files;
import java.nio.file.Path;
import java.util.ArrayList;
import java.util.List;
import java.util.Set;
import java.util.TreeSet;
import java.util.regex.Matcher;
import java.util.regex.Pattern;

/** The public face, and those rules of LANGUAGE.md that can be seen from outside or from the text. */
public final class FaceTest {
    private static final String FACE = "int read(int,int,int)|int height(int,int)|int peak(int)|int strip(int,int,int)|int of(int,int)|"
        + "int lose(int)|int draw(int,int,int)|int stands(int)|int table(int,int,int)|int wet(int,int)|int harvest(int,int)|"
        + "int foretold(int,int)|int feed(int,int,int,int,int)|int end(int)|int decrees()|int fault()|int tax(int,int,int)|"
        + "int take(int,int,int,int)|long gain(int,int)|int sheaves(int)|int led(int,int,int)|int count(int)|int status()";

    public static void main(String[] args) throws Exception {
        members();
        nestedClasses();
        sourceWords();
        Check.due("NONE", FloodTax.NONE, -1);
        Check.finish();
    }

    private static void members() {
        Check.holds("a final class", Modifier.isFinal(FloodTax.class.getModifiers()));
        Set<String> seen = new TreeSet<>();
        Set<String> open = new TreeSet<>();
        List<Method> hidden = new ArrayList<>();
        for (Method m : FloodTax.class.getDeclaredMethods()) {
            if (Modifier.isPrivate(m.getModifiers())) {
                hidden.add(m);
            } else {
                List<String> types = new ArrayList<>();
                for (Class<?> c : m.getParameterTypes()) {
                    types.add(c.getName());
                }
                seen.add(m.getReturnType() + " " + m.getName() + "(" + String.join(",", types) + ")");
                open.add(m.getName());
            }
        }
        Check.holds("the face is " + seen, seen.equals(new TreeSet<>(List.of(FACE.split("\\|")))));
        for (Method m : hidden) {
            Check.holds("a name of its own: " + m.getName(), !open.contains(m.getName()));
        }
        for (var f : FloodTax.class.getDeclaredFields()) {
            Check.holds("a hidden field: " + f.getName(), f.getName().equals("NONE") || Modifier.isPrivate(f.getModifiers()));
        }
        Check.due("constructors", FloodTax.class.getDeclaredConstructors().length, 1);
    }

    private static void nestedClasses() {
        Class<?>[] nested = FloodTax.class.getDeclaredClasses();
        Check.holds("at most twelve classes", nested.length < 12);
        for (Class<?> c : nested) {
            Check.holds("static: " + c, Modifier.isStatic(c.getModifiers()) && !Modifier.isPublic(c.getModifiers()));
        }
    }

    private static void sourceWords() throws Exception {
        String path = System.getProperty("floodtax.source", "src/main/java/FloodTax.java");
        String code = Files.readString(Path.of(path)).replaceAll("(?s)/\\*.*?\\*/", "").replaceAll("//[^\n]*", "");
        Pattern ruledOut = Pattern.compile("\\b(throw|throws|try|catch|synchronized|assert|import|package|System|Object|protected|[a-z]+Exact)\\b|->|::");
        Matcher m = ruledOut.matcher(code);
        while (m.find()) {
            Check.holds("not in the source: " + m.group(), false);
        }
        Check.holds("one public class", code.split("\\bpublic\\b.*\\bclass\\b", -1).length == 2);
    }
}
