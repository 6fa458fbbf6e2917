import java.lang.reflect.Constructor;
import java.lang.reflect.Field;
import java.lang.reflect.Method;
import java.lang.reflect.Modifier;
import java.lang.reflect.Parameter;
import java.nio.file.Files;
import java.nio.file.Path;
import java.util.Set;
import java.util.TreeSet;
import java.util.regex.Matcher;
import java.util.regex.Pattern;

/** The document's public face, line by line, against what the class shows: no member more, none less. */
public final class FaceTest {
    private static final int MEMBERS = 5 + 1 + 45;
    private static int wrong = 0;

    private FaceTest() {
    }

    public static void main(String[] args) throws Exception {
        Set<String> told = told(Files.readString(Path.of("../shared/DOC.md")));
        Set<String> shown = shown();
        compare(told, shown, "is not in the class");
        compare(shown, told, "is not in the document");
        if (told.size() != MEMBERS) {
            wrong++;
            System.out.println("face: " + told.size() + " members are told");
        }
        System.out.println("face: " + shown.size() + " members, " + wrong + " wrong");
        System.exit(wrong == 0 ? 0 : 1);
    }

    private static void compare(Set<String> these, Set<String> those, String fault) {
        for (String member : these) {
            if (!those.contains(member)) {
                wrong++;
                System.out.println("face: " + member + " " + fault);
            }
        }
    }

    private static Set<String> told(String document) {
        int from = document.indexOf("```java");
        String face = document.substring(from, document.indexOf("```", from + 3));
        Set<String> members = new TreeSet<>();
        Matcher calls = Pattern.compile("public ((?:int |long )?\\w+)\\((.*)\\);").matcher(face);
        while (calls.find()) {
            members.add(calls.group(1) + "(" + calls.group(2).replaceAll("(int|long) \\w+", "$1") + ")");
        }
        Matcher constants = Pattern.compile("public static final int (.*);").matcher(face);
        while (constants.find()) {
            for (String constant : constants.group(1).split(", ")) {
                members.add(constant);
            }
        }
        return members;
    }

    private static Set<String> shown() throws IllegalAccessException {
        Set<String> members = new TreeSet<>();
        for (Constructor<?> made : NailedByWord.class.getConstructors()) {
            members.add("NailedByWord(" + sorts(made.getParameters()) + ")");
        }
        for (Method call : NailedByWord.class.getDeclaredMethods()) {
            if (Modifier.isPublic(call.getModifiers())) {
                String still = Modifier.isStatic(call.getModifiers()) ? "static " : "";
                members.add(still + call.getReturnType() + " " + call.getName() + "(" + sorts(call.getParameters()) + ")");
            }
        }
        for (Field constant : NailedByWord.class.getFields()) {
            if (constant.getType() == int.class && Modifier.isStatic(constant.getModifiers())
                && Modifier.isFinal(constant.getModifiers())) {
                members.add(constant.getName() + " = " + constant.getInt(null));
            } else {
                members.add("field " + constant.getName());
            }
        }
        return members;
    }

    private static String sorts(Parameter[] parameters) {
        StringBuilder text = new StringBuilder();
        for (Parameter parameter : parameters) {
            text.append(text.length() == 0 ? "" : ", ").append(parameter.getType());
        }
        return text.toString();
    }
}
