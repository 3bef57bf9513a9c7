import java.io.IOException;
import java.lang.reflect.Constructor;
import java.lang.reflect.Field;
import java.lang.reflect.Method;
import java.lang.reflect.Modifier;
import java.nio.charset.StandardCharsets;
import java.nio.file.Files;
import java.nio.file.Path;
import java.util.Set;
import java.util.TreeSet;
import java.util.regex.Matcher;
import java.util.regex.Pattern;

/** The public face, and the rules of LANGUAGE.md that can be seen in the text and the class file. */
public final class FaceTest {
    private static final String FACE = "int feed(int,int,int,int,int);boolean end(int);int fault(int);int text(int);"
        + "int rule(int);int root(int);int thing(int,int);int field(int,int);int at(int,int);int make(int,int,int,int);"
        + "int link(int,int,int);int load(int,int,int);int drop(int);int minor();int major();int tell(int);int ask();"
        + "int years(int,long);int status(int);int undo();int log(int,int);int remembered(int,int);int line(int,int);"
        + "int would(boolean,int);int path(int,int);int alone(int,int);int holders(int);int round(int);int room(int);"
        + "boolean alike(int,int);int until(int);int garbage(int);int step(int,int,int);int run(int,int);"
        + "int perform(int);int most(int);int image();int back();int count(int)";

    public static void main(String[] args) throws IOException {
        face();
        nestedClasses();
        source(Files.readString(Path.of(System.getProperty("source", "src/main/java/NurseryHeap.java")),
            StandardCharsets.UTF_8));
        Check.finish();
    }

    private static String signature(Method method) {
        StringBuilder text = new StringBuilder(method.getReturnType() + " " + method.getName() + "(");
        for (Class<?> type : method.getParameterTypes()) {
            text.append(text.charAt(text.length() - 1) == '(' ? "" : ",").append(type);
        }
        return text.append(')').toString();
    }

    private static void face() {
        Set<String> due = new TreeSet<>(Set.of(FACE.split(";")));
        Set<String> names = new TreeSet<>();
        Set<String> found = new TreeSet<>();
        for (Method method : NurseryHeap.class.getDeclaredMethods()) {
            if (Modifier.isPublic(method.getModifiers())) {
                found.add(signature(method));
                names.add(method.getName());
                Check.due("not static: " + method, Modifier.isStatic(method.getModifiers()), false);
            }
        }
        Check.due("the public methods " + found, found.equals(due), true);
        Check.due("final", Modifier.isFinal(NurseryHeap.class.getModifiers()), true);
        Constructor<?>[] constructors = NurseryHeap.class.getDeclaredConstructors();
        Check.due("one constructor", constructors.length, 1);
        Check.due("a public one", Modifier.isPublic(constructors[0].getModifiers()), true);
        for (Method method : NurseryHeap.class.getDeclaredMethods()) {
            boolean isPublic = Modifier.isPublic(method.getModifiers());
            Check.due("public or private: " + method, isPublic || Modifier.isPrivate(method.getModifiers()), true);
            Check.due("a name of its own: " + method, !isPublic && names.contains(method.getName()), false);
        }
        Set<String> constants = new TreeSet<>();
        for (Field field : NurseryHeap.class.getDeclaredFields()) {
            if (!Modifier.isPrivate(field.getModifiers())) {
                constants.add(Modifier.toString(field.getModifiers()) + " " + field.getType() + " " + field.getName());
            }
        }
        Check.due("the constants " + constants, constants.equals(new TreeSet<>(
            Set.of("public static final int NONE", "public static final int HIDDEN"))), true);
    }

    private static void nestedClasses() {
        Class<?>[] nested = NurseryHeap.class.getDeclaredClasses();
        Check.due("at most twelve classes", nested.length + 1 <= 12, true);
        for (Class<?> one : nested) {
            int modifiers = one.getModifiers();
            Check.due("static: " + one, Modifier.isStatic(modifiers), true);
            Check.due("not public: " + one, Modifier.isPublic(modifiers) || Modifier.isProtected(modifiers), false);
            int fields = 0;
            for (Field field : one.getDeclaredFields()) {
                boolean isStatic = Modifier.isStatic(field.getModifiers());
                fields += isStatic ? 0 : 1;
                Check.due("static ones are final: " + field, isStatic && !Modifier.isFinal(field.getModifiers()), false);
            }
            Check.due("some twenty fields: " + one, fields <= 20, true);
            for (Method method : one.getDeclaredMethods()) {
                Check.due("seven parameters at most: " + method, method.getParameterCount() <= 7, true);
                Check.due("no name of the face: " + method, FACE.contains(" " + method.getName() + "("), false);
            }
        }
    }

    private static void source(String text) {
        String code = text.replaceAll("(?s)/\\*.*?\\*/", "").replaceAll("//[^\n]*", "");
        String[] forbidden = {"->", "::", "\\bcatch\\b", "\\bfinally\\b", "\\bassert\\b", "\\bsynchronized\\b",
            "Exact\\b", "\\bSystem\\.(?!arraycopy)", "\\bRandom\\b", "\\bThread\\b", "\\bprotected\\b", "^package",
            "\\bdouble\\b", "\\bfloat\\b", "\\bObject\\b", "new boolean\\[", "\\bString\\.", "\\brecord\\b", "\\bvar\\b"};
        for (String word : forbidden) {
            Matcher matcher = Pattern.compile(word, Pattern.MULTILINE).matcher(code);
            Check.due("without " + word, matcher.find(), false);
        }
        Matcher imports = Pattern.compile("import ([\\w.]+);").matcher(code);
        while (imports.find()) {
            String name = imports.group(1);
            Check.due("import " + name, name.equals("java.util.Arrays") || name.equals("java.util.NoSuchElementException"),
                true);
        }
        Matcher throwing = Pattern.compile("throw [^;]*;").matcher(code);
        while (throwing.find()) {
            Check.due("throws what the document names", throwing.group().equals("throw new NoSuchElementException();"), true);
        }
        for (int i = 0; i < text.length(); i++) {
            char sign = text.charAt(i);
            if (sign != '\n' && (sign < 32 || sign > 126)) {
                Check.due("signs of the source", sign, ' ');
            }
        }
    }
}
