import java.lang.reflect.Constructor;
import java.lang.reflect.Field;
import java.lang.reflect.Method;
import java.lang.reflect.Modifier;
import java.nio.file.Files;
import java.nio.file.Path;
import java.util.ArrayList;
import java.util.Arrays;
import java.util.Collections;
import java.util.List;
import java.util.regex.Matcher;
import java.util.regex.Pattern;

/** The public face is the document's, and the source keeps to what of LANGUAGE.md can be seen from outside. */
public final class FaceTest {
    private static final String[] METHODS = {
        "int back()", "int copy(int,int,int,int,int)", "int count(int)", "int decision(int,int)", "int domain(int)",
        "int feed(int)", "int film(int,int,int)", "int holds(int,int,int,int)", "int image()", "int item(int,int)",
        "int level()", "int load(int,int,int,int)", "int mixed(int,int)", "int put(int,int,int)", "int reach(int,int)",
        "int rule()", "int run()", "int search(int,int,int,int)", "int sheet(int,int,int)", "int step()",
        "int taken(int,int)", "int tell(int,int)", "int tells(int,int)", "int told(int,int)", "int trail(int,int)",
        "int undo()", "int why(int,int)", "long solutions()"
    };

    private static final Check check = new Check();

    public static void main(String[] args) throws Exception {
        constants();
        members();
        sizes();
        String whole = Files.readString(Path.of("src/main/java/ValuesGo.java"));
        source(whole);
        declarations(whole.replaceAll("\\s+", " "));
        sections(whole);
        check.close();
    }

    /** What the document's face declares, and each promise's head, stands so in the source, names included. */
    private static void declarations(String code) {
        Matcher block = Pattern.compile("```java public final class ValuesGo \\{ (.*?) \\} ```").matcher(Check.document());
        check.due("whether DOC.md has a face", block.find() ? 1 : 0, 1);
        String face = block.group(1);
        String[] parts = face.split("; ?");
        check.due("what the face declares", parts.length, 3 + METHODS.length);
        for (String part : parts) {
            String declared = part + (part.contains("(") ? " {" : ";");
            check.due("whether the source has '" + declared + "'", code.contains(declared) ? 1 : 0, 1);
        }
        Matcher head = Pattern.compile(Check.PROMISE + "(?:A new object|(\\w+)) `([^`]+)`:").matcher(Check.document());
        int heads = 0;
        while (head.find()) {
            String name = head.group(1) == null ? "ValuesGo" : head.group(1);
            boolean declared = face.contains("public " + head.group(2) + ";") && head.group(2).contains(name + "(");
            check.due("whether the face has " + head.group(2), declared ? 1 : 0, 1);
            heads++;
        }
        check.due("promises with a head", heads, 1 + METHODS.length);
    }

    /** Ahead of the calls that the document names together the source says what the interface says. */
    private static void sections(String whole) {
        Matcher named = Pattern.compile("Ahead of the calls (.*?) the interface says: (---- [a-z ]+)\\.").matcher(Check.document());
        int calls = 0;
        while (named.find()) {
            String head = "    // " + named.group(2) + "\n";
            int from = whole.indexOf(head) + head.length();
            check.due("whether the source says " + named.group(2), from > head.length() ? 1 : 0, 1);
            Matcher method = Pattern.compile("\n    public \\w+ (\\w+)\\(").matcher(whole);
            method.region(from, whole.indexOf("    // ----", from));
            StringBuilder found = new StringBuilder();
            while (method.find()) {
                found.append(found.length() == 0 ? "`" : ", `").append(method.group(1)).append("`");
                calls++;
            }
            check.due("behind it are " + found, found.toString().equals(named.group(1)) ? 1 : 0, 1);
        }
        check.due("calls that stand behind such words", calls, METHODS.length);
    }

    private static void constants() {
        check.due("NONE", ValuesGo.NONE, -1);
        check.due("BAD", ValuesGo.BAD, -2);
        check.due("STATE", ValuesGo.STATE, -3);
        check.due("FULL", ValuesGo.FULL, -4);
        check.due("DEAR", ValuesGo.DEAR, -6);
        check.due("NO", ValuesGo.NO, -4611686018427387904L);
    }

    private static void members() {
        List<String> methods = new ArrayList<>();
        List<String> hidden = new ArrayList<>();
        for (Method method : ValuesGo.class.getDeclaredMethods()) {
            if (Modifier.isPrivate(method.getModifiers())) {
                hidden.add(method.getName());
            } else if (!method.isSynthetic()) {
                check.due(method + " is public and the object's", method.getModifiers(), Modifier.PUBLIC);
                methods.add(method.getReturnType() + " " + method.getName() + "("
                    + String.join(",", Collections.nCopies(method.getParameterCount(), "int")) + ")");
                for (Class<?> type : method.getParameterTypes()) {
                    check.due("a parameter of " + method + " is an int", type == int.class ? 1 : 0, 1);
                }
            }
        }
        Collections.sort(methods);
        check.due("the methods " + methods + " are the document's", methods.equals(Arrays.asList(METHODS)) ? 1 : 0, 1);
        for (String name : hidden) {
            check.due("a private method is named as a public one: " + name,
                Arrays.stream(METHODS).anyMatch(m -> m.contains(" " + name + "(")) ? 1 : 0, 0);
        }
        Constructor<?>[] constructors = ValuesGo.class.getDeclaredConstructors();
        check.due("constructors", constructors.length, 1);
        check.due("the constructor is public", constructors[0].getModifiers(), Modifier.PUBLIC);
        check.due("the constructor's parameters", constructors[0].getParameterCount(), 0);
        check.due("the class is public and final", ValuesGo.class.getModifiers(), Modifier.PUBLIC | Modifier.FINAL);
        int open = 0;
        for (Field field : ValuesGo.class.getDeclaredFields()) {
            open += Modifier.isPrivate(field.getModifiers()) ? 0 : 1;
        }
        check.due("fields that are not private", open, 6);
    }

    private static void sizes() {
        List<Class<?>> classes = new ArrayList<>(Arrays.asList(ValuesGo.class.getDeclaredClasses()));
        for (Class<?> inner : classes) {
            check.due(inner + " is static", Modifier.isStatic(inner.getModifiers()) ? 1 : 0, 1);
            check.due(inner + " is not public", Modifier.isPublic(inner.getModifiers()) ? 1 : 0, 0);
        }
        classes.add(ValuesGo.class);
        check.due("there are at most 12 classes", classes.size() <= 12 ? 1 : 0, 1);
        for (Class<?> type : classes) {
            int fields = 0;
            for (Field field : type.getDeclaredFields()) {
                boolean fixed = Modifier.isStatic(field.getModifiers());
                fields += fixed ? 0 : 1;
                check.due(field + " is not final", fixed && !Modifier.isFinal(field.getModifiers()) ? 1 : 0, 0);
            }
            check.due(type + " has at most 20 fields", fields <= 20 ? 1 : 0, 1);
            for (Method method : type.getDeclaredMethods()) {
                check.due(method + " has at most 7 parameters", method.getParameterCount() <= 7 ? 1 : 0, 1);
            }
        }
    }

    private static void source(String whole) {
        String code = whole.replaceAll("(?s)/\\*.*?\\*/", "").replaceAll("//[^\n]*", "");
        String[] banned = {"\\bthrow\\b", "\\btry\\b", "\\bcatch\\b", "\\bsynchronized\\b", "\\bassert\\b", "->", "::",
            "\\bimport\\b", "\\bpackage\\b", "Exact\\b", "\\bHashMap\\b", "\"\\s*\\+", "\\+\\s*\"", "@"};
        for (String word : banned) {
            check.due("the source has " + word, Pattern.compile(word).matcher(code).find() ? 1 : 0, 0);
        }
        Matcher library = Pattern.compile("\\b(Integer|Long|Math|System|Arrays|String|List|ArrayList|Character|Object)\\b(\\.\\w+)?")
            .matcher(code);
        while (library.find()) {
            boolean listed = Arrays.asList("Integer.bitCount", "System.arraycopy", "String").contains(library.group());
            check.due("the library's " + library.group() + " is listed", listed ? 1 : 0, 1);
        }
        lengths(whole.split("\n"));
    }

    private static void lengths(String[] lines) {
        Pattern head = Pattern.compile("^( +)(public|private).*\\(.*\\) \\{$");
        for (int i = 0; i < lines.length; i++) {
            check.due("line " + (i + 1) + " has at most 120 signs", lines[i].length() <= 120 ? 1 : 0, 1);
            Matcher method = head.matcher(lines[i]);
            if (method.matches()) {
                int end = i;
                while (!lines[end].equals(method.group(1) + "}")) {
                    end++;
                }
                check.due("the method at line " + (i + 1) + " has at most 60 lines", end - i < 60 ? 1 : 0, 1);
            }
        }
    }
}
