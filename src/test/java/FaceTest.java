import java.lang.reflect.Constructor;
import java.lang.reflect.Field;
import java.lang.reflect.Method;
import java.lang.reflect.Modifier;
import java.nio.file.Files;
import java.nio.file.Path;
import java.util.ArrayList;
import java.util.Arrays;
import java.util.List;
import java.util.TreeSet;

/** The public face, and what of LANGUAGE.md can be read off the class and its text. */
final class FaceTest {
    private static final String[] FACE = {
        "boolean away(int,boolean)", "int about(int,int)", "int agree()", "int ask(int,int)", "int asks()",
        "int buses(int,int)", "int called(int)", "int count(int)", "int end(int)", "int feed(int,int,int,int,int)",
        "int fits(int,int,int)", "int lacks(int)", "int lay()", "int moved(int)", "int no(int)",
        "int person(int,int,int,int,int)", "int place()", "int record(int,int,int)", "int retake(int,int)",
        "int seen(int,int,int)", "int step(int,int)", "int tell(int,int)", "long pay(int,int,int)"
    };

    public static void main(String[] args) throws Exception {
        Check.due("NONE", ExtrasOffice.NONE, -1);
        Class<?> face = ExtrasOffice.class;
        Check.due("public final", face.getModifiers(), Modifier.PUBLIC | Modifier.FINAL);
        Constructor<?>[] constructors = face.getDeclaredConstructors();
        Check.due("constructors", constructors.length, 1);
        Check.due("public constructor", Modifier.isPublic(constructors[0].getModifiers()), true);
        methods(face);
        fields(face);
        text();
        Check.finish("FaceTest");
    }

    private static void methods(Class<?> face) {
        TreeSet<String> open = new TreeSet<>();
        TreeSet<String> names = new TreeSet<>();
        List<Method> hidden = new ArrayList<>();
        for (Method method : face.getDeclaredMethods()) {
            if (Modifier.isPrivate(method.getModifiers())) {
                hidden.add(method);
            } else {
                String takes = Arrays.toString(method.getParameterTypes()).replaceAll("[\\[\\] ]", "");
                open.add(method.getReturnType() + " " + method.getName() + "(" + takes + ")");
                names.add(method.getName());
            }
        }
        Check.due("the face " + open, open.equals(new TreeSet<>(Arrays.asList(FACE))), true);
        for (Class<?> inside : face.getDeclaredClasses()) {
            int modifiers = inside.getModifiers();
            Check.due(inside + " is static", Modifier.isStatic(modifiers), true);
            Check.due(inside + " is open", Modifier.isPublic(modifiers) || Modifier.isProtected(modifiers), false);
            for (Method method : inside.getDeclaredMethods()) {
                if (Modifier.isPrivate(method.getModifiers())) {
                    hidden.add(method);
                }
            }
        }
        for (Method method : hidden) {
            Check.due(method + " bears a name of the face", names.contains(method.getName()), false);
        }
    }

    private static void fields(Class<?> face) {
        for (Field field : face.getDeclaredFields()) {
            int modifiers = field.getModifiers();
            boolean isNone = field.getName().equals("NONE");
            Check.due(field + " is public", Modifier.isPublic(modifiers), isNone);
            Check.due(field + " is hidden", Modifier.isPrivate(modifiers), !isNone);
        }
        List<Class<?>> all = new ArrayList<>(Arrays.asList(face.getDeclaredClasses()));
        all.add(face);
        for (Class<?> each : all) {
            for (Field field : each.getDeclaredFields()) {
                int modifiers = field.getModifiers();
                Check.due(field + " is static state", Modifier.isStatic(modifiers) && !Modifier.isFinal(modifiers), false);
            }
        }
    }

    private static void text() throws Exception {
        String text = Files.readString(Path.of("src/main/java/ExtrasOffice.java"));
        for (String line : text.split("\n")) {
            boolean isKnown = line.matches("import java.util.(ArrayList|Arrays|Iterator|List|NoSuchElementException);");
            Check.due(line, line.startsWith("import ") && !isKnown, false);
        }
        String code = text.replaceAll("(?s)/\\*.*?\\*/", "").replaceAll("//[^\n]*", "");
        for (String line : code.split("\n")) {
            // rule 12: while an object is made, nothing of it is handed to another one's constructor
            boolean isField = line.matches("    (    )?(private |final )+\\S+ \\w+ = new .*");
            Check.due(line, isField && !line.matches(".* = new \\w+(<>\\(\\)|\\([A-Z_0-9+* ]*\\)|\\[[A-Z_0-9]+\\]);"), false);
        }
        String[] banned = {"::", "\\bfinally\\b", "\\bassert\\b", "\\bsynchronized\\b", "\\bpackage\\b", "Exact\\b",
            "(NullPointer|ArrayIndexOutOfBounds|ClassCast|NegativeArraySize|ArrayStore)Exception", "Throwable", "\\bthrows Exception"};
        for (String each : banned) {
            Check.due(each + " stands in the class", code.matches("(?s).*" + each + ".*"), false);
        }
    }
}
