import java.lang.reflect.Constructor;
import java.lang.reflect.Field;
import java.lang.reflect.Method;
import java.lang.reflect.Modifier;
import java.nio.file.Files;
import java.nio.file.Path;
import java.util.Arrays;
import java.util.Set;
import java.util.TreeSet;
import java.util.regex.Pattern;

/** The public face of the document, and those rules of LANGUAGE.md that can be looked at simply. */
public final class FaceTest {
    private static final String[] FACE = {
        "int signal(int, int, int, int)", "boolean connect(int, int, int)", "boolean port(int, int, int)",
        "boolean drive(int, int)", "boolean force(int, int)", "int peek(int)", "int clock(int)", "int word(int)",
        "void reset()", "void keep()", "void back()", "boolean level(int)", "int equivalent(int, int)",
        "int satisfied(int)", "int depth(int)"};
    private static final String[] RULED_OUT = {
        "import", "package", "null", "throw", "throws", "try", "catch", "synchronized", "assert", "instanceof",
        "float", "double", "String", "Math", "Integer", "Long", "System", "Arrays", "Object", "class", "enum",
        "interface", "record", "protected", "var"};

    public static void main(String[] args) throws Exception {
        constants();
        methods();
        fields();
        Check.due("one constructor", NetlistBench.class.getDeclaredConstructors().length, 1);
        for (Constructor<?> each : NetlistBench.class.getDeclaredConstructors()) {
            Check.due("public, without parameters", Modifier.isPublic(each.getModifiers())
                && each.getParameterCount() == 0, true);
        }
        Check.due("public final class", NetlistBench.class.getModifiers(), Modifier.PUBLIC | Modifier.FINAL);
        Check.due("no nested class", NetlistBench.class.getDeclaredClasses().length, 0);
        source(Files.readString(Path.of(args.length > 0 ? args[0] : "src/main/java/NetlistBench.java")));
        Check.end();
    }

    private static void constants() {
        Check.due("BAD", NetlistBench.BAD, -1);
        Check.due("FULL", NetlistBench.FULL, -2);
        Check.due("OPEN", NetlistBench.OPEN, -3);
    }

    private static void methods() {
        Set<String> found = new TreeSet<>();
        Set<String> publicNames = new TreeSet<>();
        for (Method each : NetlistBench.class.getDeclaredMethods()) {
            int modifiers = each.getModifiers();
            if (Modifier.isPublic(modifiers)) {
                String types = Arrays.toString(each.getParameterTypes());
                found.add(each.getReturnType() + " " + each.getName() + "(" + types.substring(1, types.length() - 1) + ")");
                publicNames.add(each.getName());
            }
            Check.due(each + " is public or private", Modifier.isPublic(modifiers) || Modifier.isPrivate(modifiers), true);
            Check.due(each + " takes at most seven", each.getParameterCount() <= 7, true);
            Check.due(each + " answers no array", each.getReturnType().isPrimitive(), true);
        }
        Check.due("the methods are " + found, found.equals(new TreeSet<>(Arrays.asList(FACE))), true);
        for (Method each : NetlistBench.class.getDeclaredMethods()) {
            boolean clash = Modifier.isPrivate(each.getModifiers()) && publicNames.contains(each.getName());
            Check.due(each + " bears the name of a public one", clash, false);
        }
    }

    private static void fields() {
        int beside = 0;
        Set<String> visible = new TreeSet<>();
        for (Field each : NetlistBench.class.getDeclaredFields()) {
            int modifiers = each.getModifiers();
            Class<?> type = each.getType();
            boolean number = type.isPrimitive() && type != float.class && type != double.class;
            boolean row = type.isArray() && type.getComponentType().isPrimitive();
            Check.due(each + " is of a type of rule 2", number || row, true);
            if (!Modifier.isPrivate(modifiers)) {
                visible.add(each.getName());
            }
            if (Modifier.isStatic(modifiers)) {
                Check.due(each + " is a constant", Modifier.isFinal(modifiers)
                    && (type == int.class || type == long.class), true);
            } else {
                beside++;
            }
        }
        Check.due("the constants are " + visible, visible.equals(Set.of("BAD", "FULL", "OPEN")), true);
        Check.due("at most forty fields", beside <= 40, true);
    }

    private static void source(String text) {
        String code = text.replaceAll("(?s)/\\*.*?\\*/", " ").replaceAll("//[^\n]*", " ");
        String body = code.substring(code.indexOf('{'));
        for (String word : RULED_OUT) {
            Check.due("'" + word + "' stands in the class", Pattern.compile("\\b" + word + "\\b").matcher(body).find(), false);
        }
        String heading = code.substring(0, code.indexOf('{')).trim();
        Check.due("nothing before the class: " + heading, heading.equals("public final class NetlistBench"), true);
        int made = body.split("\\bnew\\b", -1).length - 1;
        int atStart = body.split("private final int\\[\\] \\w+ = new int\\[\\w+\\];", -1).length - 1;
        Check.due("arrays made elsewhere than in initialisers", made - atStart, 0);
    }
}
