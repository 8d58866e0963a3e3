import java.io.IOException;
import java.lang.reflect.Constructor;
import java.lang.reflect.Field;
import java.lang.reflect.Method;
import java.lang.reflect.Modifier;
import java.nio.file.Files;
import java.nio.file.Path;
import java.util.HashSet;
import java.util.List;
import java.util.Set;
import java.util.TreeSet;

/** The public face of the document, and those rules of LANGUAGE.md that a program can look at. */
public final class FaceTest {
    private static final Set<String> METHODS = Set.of("appendCharacter/1", "clearText/0",
            "loadDrawing/0", "setColour/3", "rows/0", "columns/0", "colourAt/2", "addCut/3",
            "removeCut/3", "looseCuts/0", "removeLooseCuts/0", "paneCount/0", "paneAt/2",
            "paneSize/1", "innerCorners/1", "holes/1", "canBeCut/1", "cuttableCount/0",
            "neighbourCount/1", "leadLength/0", "setCellLimit/1", "setCornerLimit/1",
            "splitPieces/1", "splitLead/1", "applySplit/1", "equalNeighbours/0", "colourCount/1",
            "suggestedColour/2", "bestOrder/0", "largestClique/0", "undo/0");
    private static final String[] FORBIDDEN = {"import", "package", "throw", "throws", "try",
        "catch", "finally", "synchronized", "assert", "native", "volatile", "transient", "var"};

    public static void main(String[] args) throws IOException {
        constants();
        methods();
        members();
        nestedClasses();
        source(Files.readString(Path.of(args[0])));
        Run.end();
    }

    private static void isTrue(String what, boolean holds) {
        Run.due("face", what, holds ? 1 : 0, 1);
    }

    private static void constants() {
        Run.due("face", "INVALID_ARGUMENT", GlassPlanner.INVALID_ARGUMENT, -1);
        Run.due("face", "INVALID_STATE", GlassPlanner.INVALID_STATE, -2);
        Run.due("face", "LIMIT_REACHED", GlassPlanner.LIMIT_REACHED, -3);
    }

    private static void methods() {
        Set<String> found = new TreeSet<>();
        Set<String> hidden = new TreeSet<>();
        for (Method method : GlassPlanner.class.getDeclaredMethods()) {
            if (Modifier.isPublic(method.getModifiers())) {
                found.add(method.getName() + "/" + method.getParameterCount());
                isTrue(method + " is of ints alone", onlyInts(method));
            } else {
                isTrue(method + " is private", Modifier.isPrivate(method.getModifiers()));
                hidden.add(method.getName());
            }
        }
        isTrue("the public methods are those of the document: " + found, found.equals(METHODS));
        for (String name : METHODS) {
            String plain = name.substring(0, name.indexOf('/'));
            isTrue("no private method is called " + plain, !hidden.contains(plain));
        }
    }

    private static boolean isInFace(String name) {
        boolean found = false;
        for (String known : METHODS) {
            found |= known.startsWith(name + "/");
        }
        return found;
    }

    private static boolean onlyInts(Method method) {
        boolean ints = method.getReturnType() == int.class;
        for (Class<?> type : method.getParameterTypes()) {
            ints &= type == int.class;
        }
        return ints;
    }

    private static void members() {
        isTrue("the class is final", Modifier.isFinal(GlassPlanner.class.getModifiers()));
        Constructor<?>[] constructors = GlassPlanner.class.getDeclaredConstructors();
        Run.due("face", "constructors", constructors.length, 1);
        isTrue("the constructor is public", Modifier.isPublic(constructors[0].getModifiers()));
        Run.due("face", "its parameters", constructors[0].getParameterCount(), 0);
        int open = 0;
        for (Field field : GlassPlanner.class.getDeclaredFields()) {
            open += Modifier.isPrivate(field.getModifiers()) ? 0 : 1;
        }
        Run.due("face", "fields that are not private", open, 3);
    }

    private static void nestedClasses() {
        Class<?>[] nested = GlassPlanner.class.getDeclaredClasses();
        isTrue("at most twelve classes", nested.length + 1 <= 12);
        for (Class<?> type : nested) {
            int modifiers = type.getModifiers();
            isTrue(type + " is static", Modifier.isStatic(modifiers));
            isTrue(type + " is hidden", !Modifier.isPublic(modifiers)
                    && !Modifier.isProtected(modifiers));
            int fields = 0;
            for (Field field : type.getDeclaredFields()) {
                boolean fixed = Modifier.isFinal(field.getModifiers());
                boolean constant = Modifier.isStatic(field.getModifiers());
                isTrue(field + " is no changing static", fixed || !constant);
                fields += constant ? 0 : 1;
            }
            isTrue(type + " has at most twenty fields", fields <= 20);
            for (Method method : type.getDeclaredMethods()) {
                isTrue(method + " has seven parameters at most", method.getParameterCount() <= 7);
                isTrue(method + " bears a name of its own", !isInFace(method.getName()));
            }
        }
    }

    private static void source(String text) {
        String code = text.replaceAll("(?s)/\\*.*?\\*/", " ").replaceAll("//[^\n]*", " ");
        Set<String> words = new HashSet<>(List.of(code.split("[^A-Za-z0-9_]+")));
        for (String word : FORBIDDEN) {
            isTrue("the word " + word + " is not used", !words.contains(word));
        }
        isTrue("no lambda", !code.contains("->"));
        isTrue("no method reference", !code.contains("::"));
        isTrue("no text is used", !code.contains("\""));
        for (String line : text.split("\n")) {
            isTrue("at most 100 characters: " + line, line.length() <= 100);
        }
        for (int i = 0; i < text.length(); i++) {
            if (text.charAt(i) > 126) {
                isTrue("only ASCII at " + i, false);
            }
        }
    }
}
