import java.lang.reflect.Constructor;
import java.lang.reflect.Field;
import java.lang.reflect.Method;
import java.lang.reflect.Modifier;
import java.nio.charset.StandardCharsets;
import java.nio.file.Files;
import java.nio.file.Path;
import java.util.Arrays;
import java.util.TreeSet;
import java.util.regex.Matcher;
import java.util.regex.Pattern;

/** The class has the document's face and no other, and its source keeps to the rules that a reader can count. */
public final class FaceTest {
    private static final String[] FACE = {
        "int feed(int,int,int,int,int)", "int end(int)", "int text(int,int)", "int fault(int)", "int house(int,int)",
        "int person(int,int,int)", "int tread(int,int,int)", "int where(int,int,int)", "int note(int,int,int,int)",
        "int ends(int,int)", "int home(int,int,int,int,int,int,int)", "int thief(int,int,int,int,int,int)",
        "int apart(int,int)", "int worth(int,int,int)", "int sound(int,int,int)", "int makers(int,int,int)",
        "long track(int,int,int)", "int spots(int,int,int,int)", "int drawn(int,int,int,int)", "int ring(int,int)",
        "int meet(int,int,int,boolean)", "int look(int,int)", "int count(int)", "boolean image(int)", "boolean again(int)"};

    private static int wrong = 0;

    private static void check(boolean right, String what) {
        if (!right) {
            wrong++;
            System.out.println("not as due: " + what);
        }
    }

    private static void face() {
        Class<?> c = EchoStair.class;
        check(Modifier.isPublic(c.getModifiers()) && Modifier.isFinal(c.getModifiers()), "public and final");
        TreeSet<String> seen = new TreeSet<>();
        TreeSet<String> names = new TreeSet<>();
        for (Method m : c.getDeclaredMethods()) {
            if (Modifier.isPublic(m.getModifiers())) {
                String args = Arrays.toString(m.getParameterTypes()).replace("[", "(").replace("]", ")").replace(" ", "");
                seen.add(m.getReturnType() + " " + m.getName() + args);
                names.add(m.getName());
            } else {
                check(Modifier.isPrivate(m.getModifiers()), m + " is private");
            }
        }
        check(seen.equals(new TreeSet<>(Arrays.asList(FACE))), "the methods: " + seen);
        check(c.getDeclaredConstructors().length == 1, "one constructor");
        for (Constructor<?> k : c.getDeclaredConstructors()) {
            check(Modifier.isPublic(k.getModifiers()) && k.getParameterCount() == 0, "the constructor " + k);
        }
        for (Field f : c.getDeclaredFields()) {
            boolean none = f.getName().equals("NONE");
            check(none ? Modifier.isPublic(f.getModifiers()) : Modifier.isPrivate(f.getModifiers()), "field " + f);
        }
        check(c.getDeclaredClasses().length <= 12, "some twelve classes");
        for (Class<?> inside : c.getDeclaredClasses()) {
            check(Modifier.isStatic(inside.getModifiers()) && !Modifier.isPublic(inside.getModifiers()), "class " + inside);
            for (Method m : inside.getDeclaredMethods()) {
                check(!names.contains(m.getName()), m + " bears the name of a public method");
                check(m.getParameterCount() <= 7, m + " takes seven parameters at most");
            }
            int fields = 0;
            for (Field f : inside.getDeclaredFields()) {
                fields += Modifier.isStatic(f.getModifiers()) ? 0 : 1;
                check(!Modifier.isStatic(f.getModifiers()) || Modifier.isFinal(f.getModifiers()), f + " is final");
            }
            check(fields <= 20, inside + " has " + fields + " fields");
        }
    }

    private static void source() throws Exception {
        String text = Files.readString(Path.of("src/main/java/EchoStair.java"), StandardCharsets.UTF_8);
        check(text.chars().allMatch(c -> c == 10 || c >= 32 && c < 127), "plain signs alone");
        String code = text.replaceAll("(?s)/\\*.*?\\*/", " ").replaceAll("//[^\n]*", " ");
        for (String word : new String[] {"throw", "throws", "try", "catch", "synchronized", "assert", "package", "record",
            "double", "float", "Object", "System\\.(?!arraycopy)", "static\\s*\\{", "->", "::", "\\w+Exact", "@\\w+"}) {
            Matcher m = Pattern.compile(word.matches("\\w+") ? "\\b" + word + "\\b" : word).matcher(code);
            check(!m.find(), "the source has " + word);
        }
        Matcher imports = Pattern.compile("import ([^;]*);").matcher(code);
        while (imports.find()) {
            check(imports.group(1).equals("java.util.Arrays"), "import " + imports.group(1));
        }
        int begun = 0;
        String[] lines = text.split("\n");
        for (int i = 0; i < lines.length; i++) {
            check(lines[i].length() <= 125, "line " + (i + 1) + " is long");
            if (lines[i].matches(" {4,8}[\\w].*\\) \\{")) {
                begun = i;
            }
            check(!lines[i].matches(" {4,8}\\}") || i - begun <= 60, "the method that ends in line " + (i + 1) + " is long");
            if (lines[i].matches(" {4,8}\\}")) {
                begun = i;
            }
        }
    }

    public static void main(String[] args) throws Exception {
        face();
        source();
        System.out.println(wrong == 0 ? "the face and the source are as due" : wrong + " not as due");
        if (wrong != 0) {
            System.exit(1);
        }
    }
}
