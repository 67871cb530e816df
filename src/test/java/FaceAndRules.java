import java.io.IOException;
import java.lang.reflect.Constructor;
import java.lang.reflect.Field;
import java.lang.reflect.Member;
import java.lang.reflect.Method;
import java.lang.reflect.Modifier;
import java.nio.charset.StandardCharsets;
import java.nio.file.Files;
import java.nio.file.Path;
import java.nio.file.Paths;
import java.util.Arrays;
import java.util.HashSet;
import java.util.Set;
import java.util.TreeSet;
import java.util.regex.Matcher;
import java.util.regex.Pattern;

/** The public face is the document's and no more, and the source keeps to the rules that can be looked up. */
public final class FaceAndRules {
    private static final String[] FACE = {
        "int addBox(int,int,int,int)", "int moveBox(int,int,int)", "int box(int,int)", "int blocker(int,int)",
        "int link(int,int,int,int,int,int)", "int drop(int)", "int setPenalty(int)", "int count(int)",
        "int connector(int,int)", "int route(int)", "int routeAll()", "int reroute()", "int refresh()",
        "int best(int)", "int measure(int,int)", "int corner(int,int,int)", "int isOn(int,int,int)",
        "int crossings(int,int)", "int shared(int,int)", "int lane(int,int,int)", "int write(int)",
        "int written(int)", "int type(int)", "int clearText()", "int textFault()", "int run()", "int undo()",
        "long digest()"};

    private static int wrong = 0;

    public static void main(String[] args) throws IOException {
        Path root = Paths.get(args.length > 0 ? args[0] : ".");
        Path source = root.resolve("src/main/java/ConnectorRouter.java");
        face();
        insides();
        words(new String(Files.readAllBytes(source), StandardCharsets.UTF_8));
        System.out.println(wrong == 0 ? "the face and the rules are kept" : wrong + " rules are broken");
        if (wrong != 0) {
            System.exit(1);
        }
    }

    private static void must(boolean holds, String what) {
        if (!holds) {
            wrong++;
            System.out.println("broken: " + what);
        }
    }

    private static boolean isHidden(Member member) {
        return Modifier.isPrivate(member.getModifiers());
    }

    private static void face() {
        Class<?> c = ConnectorRouter.class;
        must(Modifier.isPublic(c.getModifiers()) && Modifier.isFinal(c.getModifiers()), "the class is public, final");
        Set<String> found = new TreeSet<>();
        for (Method m : c.getDeclaredMethods()) {
            if (!isHidden(m)) {
                must(m.getModifiers() == Modifier.PUBLIC, m + " is public alone");
                StringBuilder text = new StringBuilder(m.getReturnType() + " " + m.getName() + "(");
                for (Class<?> p : m.getParameterTypes()) {
                    text.append(text.charAt(text.length() - 1) == '(' ? "" : ",").append(p);
                }
                found.add(text + ")");
            }
        }
        must(found.equals(new TreeSet<>(Arrays.asList(FACE))), "the methods are " + found);
        Constructor<?>[] constructors = c.getDeclaredConstructors();
        must(constructors.length == 1 && constructors[0].getParameterCount() == 0, "there is one constructor");
        must(Modifier.isPublic(constructors[0].getModifiers()), "the constructor is public");
        Set<String> constants = new HashSet<>(Arrays.asList("NONE", "BAD_INDEX", "BAD_VALUE", "BAD_STATE", "FULL"));
        for (Field f : c.getDeclaredFields()) {
            must(isHidden(f) != constants.contains(f.getName()), f + " is shown only if it is a constant");
        }
    }

    private static void insides() {
        Class<?>[] inside = ConnectorRouter.class.getDeclaredClasses();
        must(inside.length <= 11, "there are at most some twelve classes");
        Set<String> faceNames = new HashSet<>();
        for (String method : FACE) {
            faceNames.add(method.substring(method.indexOf(' ') + 1, method.indexOf('(')));
        }
        for (Class<?> c : inside) {
            must(Modifier.isStatic(c.getModifiers()) && !Modifier.isPublic(c.getModifiers())
                && !Modifier.isProtected(c.getModifiers()), c + " is static, and private or package-visible");
            fieldsAndMethods(c);
            for (Method m : c.getDeclaredMethods()) {
                must(!faceNames.contains(m.getName()), m + " has a name of its own");
            }
        }
        fieldsAndMethods(ConnectorRouter.class);
        for (Method m : ConnectorRouter.class.getDeclaredMethods()) {
            must(!isHidden(m) || !faceNames.contains(m.getName()), m + " has a name of its own");
        }
    }

    private static void fieldsAndMethods(Class<?> c) {
        int own = 0;
        for (Field f : c.getDeclaredFields()) {
            if (Modifier.isStatic(f.getModifiers())) {
                Class<?> t = f.getType();
                must(Modifier.isFinal(f.getModifiers()), f + " is final");
                must(t == int.class || t == long.class || t == boolean.class || t == char.class
                    || t == String.class || t == int[].class, f + " is a constant");
            } else {
                own++;
            }
        }
        must(own <= 20, c + " has at most some twenty fields");
        for (Method m : c.getDeclaredMethods()) {
            must(m.getParameterCount() <= 7, m + " takes at most seven parameters");
            must(!m.isSynthetic(), m + " is written out");
        }
    }

    private static void words(String source) {
        String code = source.replaceAll("(?s)/\\*.*?\\*/", " ").replaceAll("//[^\n]*", " ")
            .replaceAll("\"[^\"\n]*\"", "\"\"");
        must(!code.contains("package "), "there is no package line");
        String[] words = {"throw", "throws", "try", "catch", "synchronized", "assert", "native", "volatile",
            "System.out", "Exception", "Error", "Object", "hashCode", "toString", "Random", "Thread", "HashMap",
            "double", "float", "var", "goto", "Exact"};
        for (String word : words) {
            must(!Pattern.compile("\\b" + Pattern.quote(word) + "\\b").matcher(code).find(), "no word " + word);
        }
        must(!code.contains("->") && !code.contains("::"), "no lambda, no method reference");
        must(!code.contains("@"), "no annotation");
        Matcher imports = Pattern.compile("import ([^;]*);").matcher(code);
        while (imports.find()) {
            must(imports.group(1).equals("java.util.Arrays"), "no import of " + imports.group(1));
        }
        Matcher library = Pattern.compile("\\b(System|Arrays|Math|Integer|Long)\\.(\\w+)").matcher(code);
        Set<String> listed = new HashSet<>(Arrays.asList("System.arraycopy", "Arrays.fill", "Arrays.copyOf",
            "Math.min", "Math.max", "Math.abs"));
        while (library.find()) {
            must(listed.contains(library.group()), library.group() + " is in the list");
        }
        for (int i = 0; i < source.length(); i++) {
            must(source.charAt(i) < 128, "every sign is below 128, but not that at " + i);
        }
        methodLengths(source);
    }

    /** A method begins with four or eight blanks and ends with a brace behind as many. */
    private static void methodLengths(String source) {
        String[] lines = source.split("\n");
        for (int i = 0; i < lines.length; i++) {
            Matcher head = Pattern.compile("^( {4}| {8})[a-zA-Z].*\\) \\{$").matcher(lines[i]);
            if (!head.find() || lines[i].contains(" class ")) {
                continue;
            }
            int end = i;
            while (end < lines.length && !lines[end].equals(head.group(1) + "}")) {
                end++;
            }
            must(end - i <= 60, lines[i].trim() + " has at most some sixty lines");
        }
    }
}
