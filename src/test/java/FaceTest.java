import java.lang.reflect.Constructor;
import java.lang.reflect.Field;
import java.lang.reflect.Method;
import java.lang.reflect.Modifier;
import java.io.IOException;
import java.nio.file.Files;
import java.nio.file.Path;
import java.util.Arrays;
import java.util.Set;
import java.util.TreeSet;
import java.util.regex.Matcher;
import java.util.regex.Pattern;

/** The public face is the document's, and the source keeps to those rules of LANGUAGE.md that a text search can see. */
public final class FaceTest {
    private static final Check CHECK = new Check("FaceTest");
    private static final String[] METHODS = {
        "int feed(int)", "int cable()", "int fault()", "int told(int)", "int wire(int,int)", "int end(int,int)",
        "int net(int,int)", "int rings(int,int)", "int touches(int,int)", "int tie(int,int)", "int cross()",
        "int test(int,int)", "int rest(int)", "int mend(int,int)", "int touch(int,int,boolean)", "int drift(int)",
        "int undo()", "int cut(int,int)", "int ties(int)", "int dry(int,int)", "int see(int,int,boolean)",
        "int write(int,int)", "int tear()", "int judge()", "int seed(int)", "int keep(int)", "int goBack(int)"};
    private static final String[] FORBIDDEN = {
        "throw", "try", "catch", "synchronized", "assert", "import", "package", "->", "::", "Exact\\(", "protected",
        "double", "float", "native", "volatile", "transient", "Object", "System\\.(?!arraycopy)", "@"};

    public static void main(String[] args) throws IOException {
        constants();
        members();
        String code = withoutComments(Files.readString(Path.of("src/main/java/FarEnds.java")));
        for (String word : FORBIDDEN) {
            String pattern = Character.isLetter(word.charAt(0)) ? "\\b" + word : word;
            pattern += Character.isLetter(word.charAt(word.length() - 1)) ? "\\b" : "";
            Matcher m = Pattern.compile(pattern).matcher(code);
            CHECK.holds("the source has no '" + word + "'", !m.find());
        }
        int classes = 0;
        for (Matcher m = Pattern.compile("\\b(class|enum|interface|record) [A-Z]").matcher(code); m.find(); ) {
            classes++;
        }
        CHECK.holds("at most twelve classes, not " + classes, classes <= 12);
        sizes(code);
        CHECK.end();
    }

    private static void constants() {
        CHECK.due("NONE", FarEnds.NONE, -1);
        CHECK.due("UNKNOWN", FarEnds.UNKNOWN, -1000000001);
        CHECK.due("OUTSIDE", FarEnds.OUTSIDE, -1000000002);
        CHECK.due("NOT", FarEnds.NOT, -1000000003);
        CHECK.due("FULL", FarEnds.FULL, -1000000004);
    }

    private static void members() {
        CHECK.holds("the class is public and final", FarEnds.class.getModifiers() == (Modifier.PUBLIC | Modifier.FINAL));
        Set<String> open = new TreeSet<>();
        Set<String> publicNames = new TreeSet<>();
        Set<String> privateNames = new TreeSet<>();
        for (Method m : FarEnds.class.getDeclaredMethods()) {
            if (Modifier.isPrivate(m.getModifiers())) {
                privateNames.add(m.getName());
                continue;
            }
            publicNames.add(m.getName());
            String types = String.join(",", Arrays.stream(m.getParameterTypes()).map(Class::getName).toList());
            open.add(m.getReturnType().getName() + " " + m.getName() + "(" + types + ")");
            CHECK.due("modifiers of " + m.getName(), m.getModifiers(), Modifier.PUBLIC);
        }
        CHECK.holds("methods are " + open, open.equals(new TreeSet<>(Arrays.asList(METHODS))));
        for (Class<?> inner : FarEnds.class.getDeclaredClasses()) {
            CHECK.holds(inner + " is static", Modifier.isStatic(inner.getModifiers()));
            for (Method m : inner.getDeclaredMethods()) {
                privateNames.add(m.getName());
            }
        }
        privateNames.retainAll(publicNames);
        CHECK.holds("no private method bears the name of a public one: " + privateNames, privateNames.isEmpty());
        Set<String> fields = new TreeSet<>();
        for (Field f : FarEnds.class.getDeclaredFields()) {
            if (!Modifier.isPrivate(f.getModifiers())) {
                fields.add(f.getName());
            }
            boolean isFinal = Modifier.isFinal(f.getModifiers());
            CHECK.holds("static field " + f.getName() + " is final", isFinal || !Modifier.isStatic(f.getModifiers()));
        }
        CHECK.holds("fields are " + fields, fields.equals(Set.of("NONE", "UNKNOWN", "OUTSIDE", "NOT", "FULL")));
        Constructor<?>[] made = FarEnds.class.getDeclaredConstructors();
        CHECK.holds("one public constructor", made.length == 1 && made[0].getParameterCount() == 0
            && Modifier.isPublic(made[0].getModifiers()));
    }

    /** Methods are told by their indent: a head ends in ") {", and the brace that ends it has the same indent. */
    private static void sizes(String code) {
        String[] lines = code.split("\n");
        Pattern head = Pattern.compile("^( ++)(?!if|for|while|switch|else|\\})[\\w\\[\\]. ]+\\(([^()]*)\\) \\{$");
        for (int i = 0; i < lines.length; i++) {
            Matcher m = head.matcher(lines[i]);
            if (!m.find() || m.group(1).length() > 8) {
                continue;
            }
            int last = i;
            while (last < lines.length - 1 && !lines[last].equals(m.group(1) + "}")) {
                last++;
            }
            CHECK.holds("at most 60 lines: " + lines[i].trim(), last - i < 60);
            CHECK.holds("at most seven parameters: " + lines[i].trim(), m.group(2).split(",").length <= 7);
        }
    }

    private static String withoutComments(String source) {
        return source.replaceAll("(?s)/\\*.*?\\*/", "").replaceAll("//[^\n]*", "");
    }
}
