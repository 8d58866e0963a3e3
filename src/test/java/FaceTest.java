import java.io.IOException;
import java.lang.reflect.Constructor;
import java.lang.reflect.Field;
import java.lang.reflect.Method;
import java.lang.reflect.Modifier;
import java.util.ArrayList;
import java.util.Arrays;
import java.util.List;
import java.util.Set;
import java.util.TreeSet;

/** The public face: what the document lists is there, and nothing else can be seen. */
public final class FaceTest {
    /** A dash and the number of parameters behind each name. */
    private static final Set<String> METHODS = new TreeSet<>(Arrays.asList("appendCharacter-1",
            "clearText-0", "loadDrawing-0", "setColour-3", "rows-0", "columns-0", "colourAt-2",
            "addCut-3", "removeCut-3", "looseCuts-0", "removeLooseCuts-0", "paneCount-0",
            "paneAt-2", "paneSize-1", "innerCorners-1", "holes-1", "canBeCut-1", "cuttableCount-0",
            "neighbourCount-1", "leadLength-0", "setCellLimit-1", "setCornerLimit-1",
            "splitPieces-1", "splitLead-1", "applySplit-1", "equalNeighbours-0", "colourCount-1",
            "suggestedColour-2", "bestOrder-0", "largestClique-0", "undo-0"));

    public static void main(String[] args) throws IOException {
        constants();
        methods();
        members();
        if (Document.isThere()) {
            documentFace();
            documentPromises();
        }
        Run.end();
    }

    private static void isTrue(String what, boolean holds) {
        Run.due("face", what, holds ? 1 : 0, 1);
    }

    private static void constants() {
        Run.due("face", "INVALID_ARGUMENT", GlassPlanner.INVALID_ARGUMENT, -1);
        Run.due("face", "INVALID_STATE", GlassPlanner.INVALID_STATE, -2);
        Run.due("face", "LIMIT_REACHED", GlassPlanner.LIMIT_REACHED, -3);
    }

    private static void methods() {
        Set<String> found = new TreeSet<>();
        for (Method method : GlassPlanner.class.getDeclaredMethods()) {
            int modifiers = method.getModifiers();
            if (Modifier.isPublic(modifiers)) {
                found.add(method.getName() + "-" + method.getParameterCount());
                isTrue(method + " is of ints alone", onlyInts(method));
                isTrue(method + " is called on an object", !Modifier.isStatic(modifiers));
                Run.due("face", method + "'s exceptions", method.getExceptionTypes().length, 0);
            } else {
                isTrue(method + " is private", Modifier.isPrivate(modifiers));
            }
        }
        isTrue("the public methods are those of the document: " + found, found.equals(METHODS));
    }

    private static boolean onlyInts(Method method) {
        boolean ints = method.getReturnType() == int.class;
        for (Class<?> type : method.getParameterTypes()) {
            ints &= type == int.class;
        }
        return ints;
    }

    private static void members() {
        isTrue("the class is public", Modifier.isPublic(GlassPlanner.class.getModifiers()));
        isTrue("the class is final", Modifier.isFinal(GlassPlanner.class.getModifiers()));
        isTrue("the class has no package", GlassPlanner.class.getPackageName().isEmpty());
        Constructor<?>[] constructors = GlassPlanner.class.getDeclaredConstructors();
        Run.due("face", "constructors", constructors.length, 1);
        isTrue("the constructor is public", Modifier.isPublic(constructors[0].getModifiers()));
        Run.due("face", "its parameters", constructors[0].getParameterCount(), 0);
        List<String> open = new ArrayList<>();
        for (Field field : GlassPlanner.class.getDeclaredFields()) {
            if (!Modifier.isPrivate(field.getModifiers())) {
                open.add(Modifier.toString(field.getModifiers()) + " " + field.getType() + " "
                        + field.getName());
            }
        }
        String constant = "public static final int ";
        isTrue("what can be seen is the constants: " + open, open.equals(List.of(
                constant + "INVALID_ARGUMENT", constant + "INVALID_STATE",
                constant + "LIMIT_REACHED")));
    }

    /** The lines of the document's code, each of which is a member of the class. */
    private static void documentFace() throws IOException {
        Set<String> methods = new TreeSet<>();
        for (String line : Document.section("The public face")) {
            String code = line.trim();
            if (code.matches("public int \\w+\\(.*\\);")) {
                methods.add(dashed(code.substring("public int ".length())));
            } else if (code.contains(" static ")) {
                String[] words = code.replace(";", "").split(" ");
                isTrue(code, words[4].matches("INVALID_ARGUMENT|INVALID_STATE|LIMIT_REACHED")
                        && words[6].equals(String.valueOf(constant(words[4]))));
            } else {
                isTrue("a line that is known: " + code, code.isEmpty() || code.startsWith("```")
                        || code.equals("}") || code.equals("public GlassPlanner();")
                        || code.equals("public final class GlassPlanner {"));
            }
        }
        isTrue("the document's methods are known: " + methods, methods.equals(METHODS));
    }

    private static int constant(String name) {
        return switch (name) {
            case "INVALID_ARGUMENT" -> GlassPlanner.INVALID_ARGUMENT;
            case "INVALID_STATE" -> GlassPlanner.INVALID_STATE;
            default -> GlassPlanner.LIMIT_REACHED;
        };
    }

    private static String dashed(String signature) {
        int open = signature.indexOf('(');
        String inside = signature.substring(open + 1, signature.indexOf(')'));
        return signature.substring(0, open) + "-"
                + (inside.isEmpty() ? 0 : inside.split(",").length);
    }

    /** Each promise but the first one is that of a method of the face. */
    private static void documentPromises() throws IOException {
        Set<String> promised = new TreeSet<>();
        int promises = 0;
        for (String line : Document.lines()) {
            promises += line.startsWith("## Promise ") ? 1 : 0;
            if (line.matches("`int \\w+\\(.*\\)`")) {
                promised.add(dashed(line.substring("`int ".length())));
            }
        }
        Run.due("face", "promises", promises, 32);
        isTrue("the promises are those of the face: " + promised, promised.equals(METHODS));
    }
}
