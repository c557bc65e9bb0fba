import java.io.IOException;
import java.lang.reflect.Field;
import java.lang.reflect.Method;
import java.lang.reflect.Modifier;
import java.nio.file.Files;
import java.nio.file.Path;
import java.util.List;
import java.util.Set;
import java.util.TreeSet;
import java.util.regex.Matcher;
import java.util.regex.Pattern;

/** The rules of ../shared/LANGUAGE.md that can be looked at from outside, and the class's face. */
public final class LanguageTest {
    private static final Set<String> FACE = Set.of(
        "int take(int)", "int addKnot()", "int removeKnot(int)", "int addThread(int,int)", "int removeThread(int)",
        "int readNet()", "int grow(int)", "int shrink(int)", "int join(int,int)", "int paint(int,int)",
        "int exchange(int,int)", "int complete()", "int type(char)", "int clearText()", "int undo()", "int keep()",
        "int restore()", "int knot(int,int)", "int thread(int,int)", "int between(int,int)", "int chain(int,int)",
        "int paintings(int)", "int firstPainting(int)", "int takingOut(int)", "int cover(int)",
        "int circles(int,int)", "int fewestOdd()", "int count(int)");
    private static final Set<String> CONSTANTS = Set.of("UNKNOWN", "BAD_VALUE", "FULL", "NOT_POSSIBLE", "NONE");
    private static final int LONGEST_METHOD = 60;

    private static int wrong = 0;

    private static void check(boolean good, String rule) {
        if (!good) {
            wrong++;
            System.out.println("not so: " + rule);
        }
    }

    private static String signature(Method m) {
        StringBuilder b = new StringBuilder(m.getReturnType() + " " + m.getName() + "(");
        for (Class<?> p : m.getParameterTypes()) {
            b.append(b.charAt(b.length() - 1) == '(' ? "" : ",").append(p);
        }
        return b.append(")").toString();
    }

    private static void checkFace() {
        Set<String> face = new TreeSet<>();
        Set<String> names = new TreeSet<>();
        for (Method m : KnotStripes.class.getDeclaredMethods()) {
            if (Modifier.isPublic(m.getModifiers())) {
                face.add(signature(m));
                names.add(m.getName());
                check(!Modifier.isStatic(m.getModifiers()), m + " is not static");
            }
        }
        check(face.equals(FACE), "the public methods are those of the document: " + face);
        for (Method m : KnotStripes.class.getDeclaredMethods()) {
            if (!Modifier.isPublic(m.getModifiers())) {
                check(Modifier.isPrivate(m.getModifiers()), m + " is private");
                check(!names.contains(m.getName()), m + " has a name of its own");
            }
        }
        for (Field f : KnotStripes.class.getDeclaredFields()) {
            boolean constant = CONSTANTS.contains(f.getName());
            check(constant == Modifier.isPublic(f.getModifiers()), f + " is public if it is a constant of the face");
            check(constant || Modifier.isPrivate(f.getModifiers()), f + " is private");
        }
        check(KnotStripes.class.getDeclaredConstructors().length == 1, "there is one constructor");
        checkClass(KnotStripes.class);
        for (Class<?> inside : KnotStripes.class.getDeclaredClasses()) {
            checkClass(inside);
            check(Modifier.isStatic(inside.getModifiers()), inside + " is static");
            check(!Modifier.isPublic(inside.getModifiers()), inside + " is not public");
            for (Method m : inside.getDeclaredMethods()) {
                check(!names.contains(m.getName()), m + " has a name of its own");
            }
        }
        check(KnotStripes.class.getDeclaredClasses().length <= 11, "there are few classes");
    }

    private static void checkClass(Class<?> c) {
        int fields = 0;
        for (Field f : c.getDeclaredFields()) {
            if (Modifier.isStatic(f.getModifiers())) {
                check(Modifier.isFinal(f.getModifiers()), f + " is final");
            } else {
                fields++;
            }
        }
        check(fields <= 20, c + " has few fields");
        for (Method m : c.getDeclaredMethods()) {
            check(m.getParameterCount() <= 7, m + " has few parameters");
        }
    }

    private static void checkWords(String code) {
        for (String word : List.of("throw", "throws", "try", "catch", "synchronized", "assert", "import", "package",
                "equals", "hashCode", "toString", "volatile", "native", "yield", "var", "System.nanoTime", "Random",
                "Thread", "Object", "instanceof")) {
            check(!Pattern.compile("\\b" + Pattern.quote(word) + "\\b").matcher(code).find(), "there is no " + word);
        }
        check(!code.contains("->") && !code.contains("::"), "there is no lambda and no method reference");
        check(!code.contains("Exact("), "there is no function that throws");
        check(code.chars().allMatch(c -> c < 128), "all signs are plain");
        check(!Pattern.compile("[^<>=!+\\-*/&|^]/[^/*=]|%").matcher(code).find(), "there is no division");
        check(!Pattern.compile("while \\(true\\)|for \\(;").matcher(code).find(), "each loop has an end");
        Matcher library = Pattern.compile("\\b(Integer|Long|Math|System|Arrays|String|StringBuilder)\\b\\.?(\\w*)").matcher(code);
        Set<String> allowed = Set.of("Integer.bitCount", "Integer.numberOfTrailingZeros", "Integer.numberOfLeadingZeros",
            "Math.min", "Math.max");
        while (library.find()) {
            check(allowed.contains(library.group()), library.group() + " is in the list");
        }
    }

    /** All objects are made when the object is made: no call takes room. */
    private static void checkMaking(String code) {
        Matcher making = Pattern.compile(".*\\bnew\\b.*").matcher(code);
        while (making.find()) {
            String line = making.group().trim();
            check(line.matches("(states\\[i\\]|\\w+) = new \\w+(\\(\\)|\\[[A-Z_]+\\]);"), "made by a constructor: " + line);
        }
        Matcher method = Pattern.compile("\n( +)[\\w\\[\\] ]+\\([^;=]*\\) \\{\n(.*?)\n\\1\\}", Pattern.DOTALL).matcher(code);
        while (method.find()) {
            String head = method.group().trim().split("\n")[0];
            int lines = method.group(2).split("\n").length;
            check(lines <= LONGEST_METHOD, head + " is short");
            boolean constructor = head.matches("(public )?[A-Z]\\w*\\(\\) \\{");
            check(constructor || !Pattern.compile("\\bnew\\b").matcher(method.group(2)).find(), head + " makes nothing");
        }
    }

    public static void main(String[] args) throws IOException {
        String source = Files.readString(Path.of("src/main/java/KnotStripes.java"));
        String code = source.replaceAll("(?s)/\\*.*?\\*/", "").replaceAll("//[^\n]*", "");
        checkFace();
        checkWords(code);
        checkMaking(code);
        System.out.println(wrong == 0 ? "the rules are kept" : wrong + " rules are not kept");
        if (wrong != 0) {
            System.exit(1);
        }
    }
}
