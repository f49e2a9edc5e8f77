import java.lang.reflect.Field;
import java.lang.reflect.Method;
import java.lang.reflect.Modifier;
import java.nio.file.Files;
import java.nio.file.Path;
import java.util.ArrayList;
import java.util.List;
import java.util.Set;
import java.util.TreeSet;

/** The public face, and the rules of LANGUAGE.md that a look at the class and its text can tell. */
public final class FaceTest {
    private static final String SOURCE = "src/main/java/NurseryPlaces.java";
    private static final String[] METHODS = {
        "set(int,int)", "room(int,int,int,int)", "carer(int,int,int,int)", "child(int,int,int)", "leave(int)",
        "admit()", "visit(int,int)", "swap(int,int,int,int)", "giveBack(int,int)", "sick(int)", "weeks(int)",
        "ofRoom(int,int)", "ofCarer(int,int)", "ofChild(int,int)", "count(int)", "free(int,int)", "wouldGet(int)",
        "wouldAdmit()", "partners(int,int,int)", "sentHome(int)", "moreBy(int,int,int,int)", "income(int)",
        "put(long)", "wipe()", "fault()", "carryOut()", "undo()", "save(int)", "restore(int)"};
    private static final String[] CONSTANTS = {
        "NO_SUCH=-1", "BAD_VALUE=-2", "BAD_TEXT=-3", "TOO_MANY=-4", "NOT_POSSIBLE=-5", "NONE=-6",
        "PRICE=0", "DISCOUNT=1", "LEAST=2", "VISITS=3", "PATIENCE=4", "WAITING=0", "PLACED=1", "GONE=2"};

    private static final Check CHECK = new Check("FaceTest");

    public static void main(String[] args) throws Exception {
        face();
        privateMembers();
        classesInside();
        text();
        CHECK.finish();
    }

    private static void face() throws IllegalAccessException {
        Class<?> type = NurseryPlaces.class;
        CHECK.that("a public final class", Modifier.isPublic(type.getModifiers()) && Modifier.isFinal(type.getModifiers()));
        CHECK.due("constructors", type.getDeclaredConstructors().length, 1);
        CHECK.due("public constructors", type.getConstructors().length, 1);
        Set<String> methods = new TreeSet<>();
        for (Method method : type.getDeclaredMethods()) {
            if (Modifier.isPrivate(method.getModifiers()) || method.isSynthetic()) continue;
            CHECK.that(method + " is public, not static, and answers an int", Modifier.isPublic(method.getModifiers())
                && !Modifier.isStatic(method.getModifiers()) && method.getReturnType() == int.class);
            methods.add(signature(method));
        }
        CHECK.that("methods are " + methods, methods.equals(new TreeSet<>(List.of(METHODS))));
        Set<String> constants = new TreeSet<>();
        for (Field field : type.getDeclaredFields()) {
            if (Modifier.isPrivate(field.getModifiers()) || field.isSynthetic()) continue;
            constants.add(field.getName() + "=" + field.getInt(null));
        }
        CHECK.that("constants are " + constants, constants.equals(new TreeSet<>(List.of(CONSTANTS))));
    }

    private static String signature(Method method) {
        List<String> types = new ArrayList<>();
        for (Class<?> type : method.getParameterTypes()) types.add(type.getName());
        return method.getName() + "(" + String.join(",", types) + ")";
    }

    private static void privateMembers() {
        Set<String> faceNames = new TreeSet<>();
        for (String method : METHODS) faceNames.add(method.substring(0, method.indexOf('(')));
        for (Class<?> type : allClasses()) {
            for (Method method : type.getDeclaredMethods()) {
                boolean isOfFace = type == NurseryPlaces.class && Modifier.isPublic(method.getModifiers());
                CHECK.that(method + " bears no name of the face", isOfFace || !faceNames.contains(method.getName()));
                CHECK.that(method + " has at most 7 parameters", method.getParameterCount() <= 7);
            }
            int fields = 0;
            for (Field field : type.getDeclaredFields()) {
                if (!Modifier.isStatic(field.getModifiers())) fields++;
                else CHECK.that(field + " is final", Modifier.isFinal(field.getModifiers()));
            }
            CHECK.that(type + " has at most 20 fields", fields <= 20);
        }
    }

    private static void classesInside() {
        CHECK.that("at most 12 classes", allClasses().size() <= 12);
        for (Class<?> type : NurseryPlaces.class.getDeclaredClasses()) {
            CHECK.that(type + " is static", Modifier.isStatic(type.getModifiers()));
            CHECK.that(type + " is not seen outside", !Modifier.isPublic(type.getModifiers()) && !Modifier.isProtected(type.getModifiers()));
        }
    }

    private static List<Class<?>> allClasses() {
        List<Class<?>> all = new ArrayList<>(List.of(NurseryPlaces.class.getDeclaredClasses()));
        all.add(NurseryPlaces.class);
        return all;
    }

    private static void text() throws Exception {
        String source = Files.readString(Path.of(SOURCE));
        for (int i = 0; i < source.length(); i++) {
            if (source.charAt(i) > 126) CHECK.that("only plain signs, at " + i, false);
        }
        String code = source.replaceAll("(?s)/\\*.*?\\*/", " ").replaceAll("//[^\n]*", " ").replaceAll("\"[^\"\n]*\"", "\"\"");
        String[] words = {"throw", "throws", "try", "catch", "finally", "synchronized", "assert", "import", "package", "volatile",
            "native", "instanceof", "transient", "strictfp", "protected", "var", "yield"};
        for (String word : words) {
            CHECK.that("no word " + word, !code.matches("(?s).*\\b" + word + "\\b.*"));
        }
        CHECK.that("no lambda, no method reference", !code.contains("->") && !code.contains("::"));
        CHECK.that("one public class", code.split("\\bclass\\b").length - 1 <= 12);
    }
}
