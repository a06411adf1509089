import java.io.IOException;
import java.lang.reflect.Constructor;
import java.lang.reflect.Field;
import java.lang.reflect.Method;
import java.lang.reflect.Modifier;
import java.nio.file.Files;
import java.nio.file.Path;
import java.util.Arrays;
import java.util.Set;
import java.util.TreeSet;
import java.util.regex.Matcher;
import java.util.regex.Pattern;

/** The public face is the document's and no more, and the source keeps to rules of LANGUAGE.md. */
public final class FaceTest {
    private static final Checks checks = new Checks("FaceTest");

    private static final String[] METHODS = {"addType/0", "addConstructor/5", "resultType/1", "arity/1",
        "argumentType/2", "cardinality/1", "smallestSize/1", "count/2", "value/3", "variable/1", "term/4",
        "nodeCount/0", "nodeType/1", "head/1", "child/2", "binding/1", "size/1", "rank/1", "equal/2",
        "unify/2", "boundCount/0", "unbindAll/0", "push/0", "pop/0", "addRow/1", "clearRows/0",
        "firstMatch/1", "uncovered/1", "firstUncovered/1", "coveredBy/2"};

    private static final String[] CONSTANTS = {"NO_SUCH_TYPE", "NO_SUCH_CONSTRUCTOR", "NO_SUCH_NODE",
        "OUT_OF_RANGE", "WRONG_TYPE", "FULL", "CLASH", "CYCLE", "NOT_GROUND", "TOO_LARGE", "NO_ROWS",
        "EMPTY", "NONE", "INFINITE", "MANY"};

    public static void main(String[] args) throws IOException, ReflectiveOperationException {
        publicMethods();
        publicConstants();
        noOtherMembers();
        String root = System.getProperty("project.root", ".");
        String source = Files.readString(Path.of(root, "src/main/java/DatatypeTerms.java"));
        faceOfTheDocument(source);
        signaturesOfPromises();
        forbiddenWords(withoutComments(source));
        namesOfMethods(withoutComments(source));
        checks.end();
    }

    private static void publicMethods() {
        Set<String> got = new TreeSet<>();
        for (Method method : DatatypeTerms.class.getDeclaredMethods()) {
            if (Modifier.isPublic(method.getModifiers())) {
                got.add(method.getName() + "/" + method.getParameterCount());
                checks.holds(method + " is as in the document", method.getReturnType() == int.class
                        && !Modifier.isStatic(method.getModifiers())
                        && Arrays.stream(method.getParameterTypes()).allMatch(t -> t == int.class));
            }
        }
        checks.holds("the public methods are " + got, got.equals(new TreeSet<>(Arrays.asList(METHODS))));
    }

    private static void publicConstants() {
        Set<String> got = new TreeSet<>();
        for (Field field : DatatypeTerms.class.getDeclaredFields()) {
            if (Modifier.isPublic(field.getModifiers())) {
                got.add(field.getName());
                checks.holds(field + " is a constant", field.getType() == int.class
                        && Modifier.isStatic(field.getModifiers()) && Modifier.isFinal(field.getModifiers()));
            }
        }
        checks.holds("the public constants are " + got, got.equals(new TreeSet<>(Arrays.asList(CONSTANTS))));
    }

    /** Each line of the document's face stands in the source, with the same names and numbers. */
    private static void faceOfTheDocument(String source) throws ReflectiveOperationException {
        int constants = 0;
        int methods = 0;
        for (String line : Document.section(Document.FACE).split("\n")) {
            if (line.endsWith(";")) {
                String inSource = line.contains("(") ? line.replace(";", " {") : line;
                checks.holds("the source has: " + line.trim(), source.contains("\n" + inSource + "\n"));
                methods += line.contains("(") ? 1 : 0;
            }
            Matcher constant = Pattern.compile("([A-Z_]+) = (-?\\d+)").matcher(line);
            while (constant.find()) {
                constants++;
                checks.due(constant.group(1), DatatypeTerms.class.getField(constant.group(1)).getInt(null),
                        Integer.parseInt(constant.group(2)));
            }
        }
        checks.due("constants of the document", constants, CONSTANTS.length);
        checks.due("methods of the document, and its constructor", methods, METHODS.length + 1);
    }

    /** The promises are one for each member of the face, in its order. */
    private static void signaturesOfPromises() {
        String[] face = Arrays.stream(Document.section(Document.FACE).split("\n"))
                .filter(line -> line.contains("("))
                .map(line -> line.replace("public", "").replace(";", "").trim())
                .toArray(String[]::new);
        for (int i = 0; i < face.length; i++) {
            String promise = "Promise " + (i + 1);
            checks.holds(promise + " is that of " + face[i],
                    Document.section(promise).contains("\n`" + face[i] + "`\n"));
        }
    }

    private static void noOtherMembers() {
        checks.holds("public and final", Modifier.isPublic(DatatypeTerms.class.getModifiers())
                && Modifier.isFinal(DatatypeTerms.class.getModifiers()));
        Constructor<?>[] constructors = DatatypeTerms.class.getDeclaredConstructors();
        checks.holds("one public constructor without parameters", constructors.length == 1
                && constructors[0].getParameterCount() == 0 && Modifier.isPublic(constructors[0].getModifiers()));
        for (Method method : DatatypeTerms.class.getDeclaredMethods()) {
            checks.holds(method + " is public or private", isPublicOrPrivate(method.getModifiers()));
        }
        for (Field field : DatatypeTerms.class.getDeclaredFields()) {
            checks.holds(field + " is public or private", isPublicOrPrivate(field.getModifiers()));
        }
        Class<?>[] inside = DatatypeTerms.class.getDeclaredClasses();
        checks.holds("at most twelve classes", inside.length + 1 <= 12);
        for (Class<?> type : inside) {
            checks.holds(type + " is static", Modifier.isStatic(type.getModifiers()));
            checks.holds(type + " has at most twenty fields", type.getDeclaredFields().length <= 20);
        }
    }

    private static boolean isPublicOrPrivate(int modifiers) {
        return Modifier.isPublic(modifiers) || Modifier.isPrivate(modifiers);
    }

    private static String withoutComments(String source) {
        return source.replaceAll("(?s)/\\*.*?\\*/", "").replaceAll("//[^\n]*", "");
    }

    private static void forbiddenWords(String code) {
        String[] words = {"throw", "throws", "try", "catch", "synchronized", "assert", "protected", "hashCode",
            "toString", "Object", "System\\.out", "System\\.exit", "Random", "Thread", "\\w+Exact"};
        for (String word : words) {
            checks.holds("no '" + word + "' in the source",
                    !Pattern.compile("\\b" + word + "\\b").matcher(code).find());
        }
        checks.holds("no lambda or method reference", !code.contains("->") && !code.contains("::"));
        checks.holds("no package line", !Pattern.compile("(?m)^\\s*package\\b").matcher(code).find());
        Matcher imports = Pattern.compile("(?m)^import (.*);").matcher(code);
        while (imports.find()) {
            checks.holds("import " + imports.group(1), imports.group(1).equals("java.util.Arrays"));
        }
    }

    /** Each public name is declared once: no method inside, private or not, bears it again. */
    private static void namesOfMethods(String code) {
        for (String method : METHODS) {
            String name = method.substring(0, method.indexOf('/'));
            Matcher declared = Pattern.compile(
                    "(?m)^\\s+(?:(?:public|private|static|final)\\s+)*(?:int|long|boolean|void|int\\[\\])\\s+"
                            + name + "\\s*\\(").matcher(code);
            int times = 0;
            while (declared.find()) {
                times++;
            }
            checks.due("declarations of " + name, times, 1);
        }
    }
}
