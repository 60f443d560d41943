import java.lang.reflect.Constructor;
import java.lang.reflect.Field;
import java.lang.reflect.Method;
import java.lang.reflect.Modifier;
import java.nio.charset.StandardCharsets;
import java.nio.file.Files;
import java.nio.file.Path;
import java.util.Set;
import java.util.TreeSet;
import java.util.regex.Matcher;
import java.util.regex.Pattern;

/** The public face of the document, and those rules of the language that can be looked up. */
public final class RulesTest {
    private static final Pattern FACE_BLOCK = Pattern.compile("(?s)```java\n(.*?)```");
    private static final Pattern FACE_METHOD = Pattern.compile("public (\\w+ \\w+\\([^)]*\\));");
    private static final Pattern RULED_OUT = Pattern.compile(
        "\\b(throw|throws|try|catch|synchronized|assert|import|package|Object|hashCode|toString|NaN|var|volatile|native"
            + "|protected|[a-z]+Exact)\\b|->|::|\\bSystem\\.(?!arraycopy)|\\bdouble\\b|\\bfloat\\b|@");
    private static int wrong = 0;

    public static void main(String[] args) throws Exception {
        face(documentFace(Files.readString(Path.of("../shared/DOC.md"), StandardCharsets.UTF_8)));
        classes();
        source(Files.readString(Path.of("src/main/java/LightRoom.java"), StandardCharsets.UTF_8));
        System.out.println(wrong == 0 ? "all rules are kept" : wrong + " rules are broken");
        if (wrong != 0) {
            System.exit(1);
        }
    }

    private static void holds(String rule, boolean kept) {
        if (!kept) {
            wrong++;
            System.out.println("broken: " + rule);
        }
    }

    /** The methods that the document shows, each as "int corner(int,int)". */
    private static Set<String> documentFace(String document) {
        Set<String> face = new TreeSet<>();
        Matcher block = FACE_BLOCK.matcher(document);
        holds("the document shows a face", block.find());
        Matcher method = FACE_METHOD.matcher(block.group(1));
        while (method.find()) {
            face.add(method.group(1).replaceAll(" \\w+([,)])", "$1").replace(", ", ","));
        }
        holds("21 methods of the face: " + face, face.size() == 21);
        return face;
    }

    private static void face(Set<String> due) throws Exception {
        int modifiers = LightRoom.class.getModifiers();
        holds("public and final", Modifier.isPublic(modifiers) && Modifier.isFinal(modifiers));
        Set<String> methods = new TreeSet<>();
        Set<String> names = new TreeSet<>();
        for (Method method : LightRoom.class.getDeclaredMethods()) {
            if (!Modifier.isPrivate(method.getModifiers())) {
                methods.add(signature(method));
                names.add(method.getName());
                holds(method.getName() + " is public alone", method.getModifiers() == Modifier.PUBLIC);
            }
        }
        holds("the methods of the face: " + methods + ", due are " + due, methods.equals(due));
        for (Method method : LightRoom.class.getDeclaredMethods()) {
            holds("no private " + method.getName(), !Modifier.isPrivate(method.getModifiers()) || !names.contains(method.getName()));
        }
        for (Class<?> inside : LightRoom.class.getDeclaredClasses()) {
            for (Method method : inside.getDeclaredMethods()) {
                holds("no " + method.getName() + " in " + inside.getName(), !names.contains(method.getName()));
            }
        }
        Constructor<?>[] constructors = LightRoom.class.getDeclaredConstructors();
        holds("one constructor", constructors.length == 1 && constructors[0].getParameterCount() == 0
            && Modifier.isPublic(constructors[0].getModifiers()));
        for (Field field : LightRoom.class.getDeclaredFields()) {
            holds("field " + field.getName(), Modifier.isPrivate(field.getModifiers()) || field.getName().equals("NONE"));
        }
        holds("NONE", LightRoom.class.getField("NONE").getInt(null) == -1
            && LightRoom.class.getField("NONE").getModifiers() == (Modifier.PUBLIC | Modifier.STATIC | Modifier.FINAL));
    }

    private static String signature(Method method) {
        StringBuilder text = new StringBuilder(method.getReturnType().getName()).append(' ').append(method.getName()).append('(');
        for (Class<?> type : method.getParameterTypes()) {
            text.append(text.charAt(text.length() - 1) == '(' ? "" : ",").append(type.getName());
        }
        return text.append(')').toString();
    }

    private static void classes() {
        Class<?>[] inside = LightRoom.class.getDeclaredClasses();
        holds("at most 12 classes", inside.length < 12);
        oneClass(LightRoom.class);
        for (Class<?> one : inside) {
            holds(one.getName() + " is static", Modifier.isStatic(one.getModifiers()));
            holds(one.getName() + " isn't public", !Modifier.isPublic(one.getModifiers()));
            oneClass(one);
        }
    }

    private static void oneClass(Class<?> one) {
        int fields = 0;
        for (Field field : one.getDeclaredFields()) {
            fields += Modifier.isStatic(field.getModifiers()) ? 0 : 1;
            holds("static " + field.getName() + " is final", !Modifier.isStatic(field.getModifiers()) || Modifier.isFinal(field.getModifiers()));
        }
        holds(one.getName() + " has at most 20 fields", fields <= 20);
        for (Method method : one.getDeclaredMethods()) {
            holds(method.getName() + " takes at most seven", method.getParameterCount() <= 7);
        }
    }

    private static void source(String text) {
        String code = text.replaceAll("(?s)/\\*.*?\\*/", "").replaceAll("//[^\n]*", "");
        Matcher found = RULED_OUT.matcher(code);
        while (found.find()) {
            holds("without " + found.group(), false);
        }
        int begun = 0;
        String[] lines = text.split("\n");
        for (int i = 0; i < lines.length; i++) {
            if (lines[i].matches("( {4}| {8})\\S.*\\) \\{") && !lines[i].trim().matches("(if|for|while|switch).*")) {
                begun = i;
            }
            if (lines[i].matches("( {4}| {8})\\}")) {
                holds("a short method at line " + (begun + 1), begun == 0 || i - begun < 60 || lines[i].startsWith("    }"));
            }
            holds("a line of at most 100: " + (i + 1), lines[i].length() <= 100);
        }
    }
}
