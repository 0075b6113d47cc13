import java.lang.reflect.Constructor;
import java.lang.reflect.Field;
import java.lang.reflect.Method;
import java.lang.reflect.Modifier;
import java.nio.charset.StandardCharsets;
import java.nio.file.Files;
import java.nio.file.Path;
import java.util.Arrays;
import java.util.Random;
import java.util.Set;
import java.util.TreeSet;
import java.util.regex.Matcher;
import java.util.regex.Pattern;

/** The face of the document, what of LANGUAGE.md can be seen from outside, and that no call ever throws. */
public final class RulesTest {
    private static final String[] FACE = {
        "int doors(int)", "int weights(int,int,int)", "int mend(int,int,int)", "int of(int,int)", "int feed(int)",
        "int law(int)", "int opens(int)", "int choose(int)", "int opened(int)", "int anew()", "long likely(int,int)",
        "int best()", "long gain(int)", "long next(int,int)", "long worth(int,int,int)", "long theBest(int)",
        "long sure(int,int,int)", "long hardest(int,int)", "long which(int,int,int)", "int judge(int,int)",
        "int apart(int,int)", "int drawn(int,int,int)", "int code(int,int)", "long partner(int,int)", "int win(int)",
        "int led(int)", "int image()", "int back()", "int undo()", "int redo()", "int body(int)", "int act(int,int,int)",
        "int trace(int)", "int keep(int,int)", "int row(int,int,int)", "int put(int,int,long)", "long element(int,int)",
        "int shift(int,int,int,int,int)", "int taken(int,int)", "int count(int)"};
    private static int wrong = 0;

    public static void main(String[] args) throws Exception {
        face();
        members();
        source(Files.readAllBytes(Path.of(System.getProperty("source", "src/main/java/ChangeDoors.java"))));
        anyCalls();
        System.out.println(wrong == 0 ? "the rules are kept" : wrong + " rules are broken");
        if (wrong != 0) System.exit(1);
    }

    private static void must(boolean holds, String rule) {
        if (holds) return;
        wrong++;
        System.out.println("not so: " + rule);
    }

    private static void face() {
        Set<String> have = new TreeSet<>();
        for (Method m : ChangeDoors.class.getDeclaredMethods()) {
            if (Modifier.isPrivate(m.getModifiers()) || m.isSynthetic()) continue;
            must(m.getModifiers() == Modifier.PUBLIC, m.getName() + " is public and no more");
            String types = Arrays.toString(m.getParameterTypes()).replaceAll("[\\[\\] ]", "");
            have.add(m.getReturnType() + " " + m.getName() + "(" + types + ")");
        }
        must(have.equals(new TreeSet<>(Arrays.asList(FACE))), "the methods of the face: " + have);
        Constructor<?>[] makers = ChangeDoors.class.getDeclaredConstructors();
        must(makers.length == 1 && makers[0].getModifiers() == Modifier.PUBLIC && makers[0].getParameterCount() == 0, "one constructor");
        must(ChangeDoors.class.getModifiers() == (Modifier.PUBLIC | Modifier.FINAL), "public and final");
        Set<String> constants = new TreeSet<>();
        for (Field f : ChangeDoors.class.getDeclaredFields()) {
            if (Modifier.isPrivate(f.getModifiers())) continue;
            must(f.getModifiers() == (Modifier.PUBLIC | Modifier.STATIC | Modifier.FINAL) && f.getType() == int.class, f.getName());
            constants.add(f.getName());
        }
        must(constants.toString().equals("[BAD, FULL, NOT, STATE, VOID]"), "the constants: " + constants);
        must(ChangeDoors.BAD == -1 && ChangeDoors.NOT == -2 && ChangeDoors.FULL == -3, "BAD, NOT, FULL");
        must(ChangeDoors.STATE == -5 && ChangeDoors.VOID == -2000000000, "STATE, VOID");
    }

    private static void members() {
        Set<String> names = new TreeSet<>();
        for (String f : FACE) names.add(f.substring(f.indexOf(' ') + 1, f.indexOf('(')));
        Class<?>[] inside = ChangeDoors.class.getDeclaredClasses();
        must(inside.length + 1 <= 12, "some twelve classes");
        for (Class<?> c : inside) {
            must(Modifier.isStatic(c.getModifiers()), c.getName() + " is static");
            look(c, names);
        }
        look(ChangeDoors.class, names);
    }

    private static void look(Class<?> c, Set<String> names) {
        int fields = 0;
        for (Field f : c.getDeclaredFields()) {
            if (Modifier.isStatic(f.getModifiers())) must(Modifier.isFinal(f.getModifiers()), f + " is final");
            else fields++;
        }
        must(fields <= 20, c.getName() + " has some twenty fields");
        for (Method m : c.getDeclaredMethods()) {
            must(m.getParameterCount() <= 7, m + " takes at most seven parameters");
            boolean isFace = c == ChangeDoors.class && Modifier.isPublic(m.getModifiers());
            must(isFace || !names.contains(m.getName()), m + " bears the name of a public one");
        }
    }

    private static void source(byte[] bytes) {
        for (byte b : bytes) if (b < 0) must(false, "all signs are 1 to 127");
        String text = new String(bytes, StandardCharsets.ISO_8859_1);
        String code = text.replaceAll("(?s)/\\*.*?\\*/", "").replaceAll("//[^\n]*", "").replaceAll("'[^']'", "0").replaceAll("\"[^\"]*\"", "0");
        String[] words = {"throw", "throws", "try", "catch", "finally", "synchronized", "assert", "volatile", "native", "package",
            "Object", "Exception", "Thread", "Random", "Scanner", "equals", "hashCode", "toString", "double", "float", "var"};
        for (String w : words) must(!Pattern.compile("\\b" + w + "\\b").matcher(code).find(), "no " + w);
        must(!code.contains("->") && !code.contains("::"), "no lambda, no method reference");
        must(!code.contains("Exact"), "no function whose name ends in Exact");
        Matcher imports = Pattern.compile("import ([^;]*);").matcher(code);
        while (imports.find()) must(imports.group(1).equals("java.util.Arrays"), "imports " + imports.group(1));
        Matcher library = Pattern.compile("\\b(System|Math|Integer|Long|Arrays)\\.(\\w+)").matcher(code);
        Set<String> allowed = Set.of("System.arraycopy", "Math.max", "Math.min", "Integer.bitCount", "Arrays.fill");
        while (library.find()) must(allowed.contains(library.group()), "uses " + library.group());
        must(!Pattern.compile("\\bwhile\\b").matcher(code).find(), "every loop counts");
        methodsAreShort(text);
    }

    private static void methodsAreShort(String text) {
        String[] lines = text.split("\n");
        Pattern opens = Pattern.compile("^( +)(?:\\w+(?:\\[\\])* )*\\w+\\([^;]*\\) \\{$");
        for (int k = 0; k < lines.length; k++) {
            Matcher m = opens.matcher(lines[k]);
            if (!m.matches() || lines[k].matches(" +(if|for|switch|while|else).*")) continue;
            int end = k;
            while (end < lines.length && !lines[end].equals(m.group(1) + "}")) end++;
            must(end - k <= 60, "short: " + lines[k].trim());
        }
    }

    /** Any arguments in any state: numbers near all limits and far from them. */
    private static void anyCalls() throws Exception {
        Random r = new Random(41);
        int[] odd = {Integer.MIN_VALUE, Integer.MIN_VALUE + 1, Integer.MAX_VALUE, Integer.MAX_VALUE - 1, -1, -2, -10, -100, 61, 120, 255, 256};
        Method[] methods = ChangeDoors.class.getDeclaredMethods();
        for (int run = 0; run < 300; run++) {
            ChangeDoors x = new ChangeDoors();
            x.doors(2 + r.nextInt(4));
            for (int call = 0; call < 511; call++) {
                Method m = methods[r.nextInt(methods.length)];
                if (!Modifier.isPublic(m.getModifiers())) continue;
                Object[] a = new Object[m.getParameterCount()];
                for (int k = 0; k < a.length; k++) {
                    int v = r.nextInt(12) == 0 ? odd[r.nextInt(odd.length)] : r.nextInt(r.nextInt(6) == 0 ? 160 : 6);
                    a[k] = m.getParameterTypes()[k] == long.class ? (Object) (long) v : (Object) v;
                }
                try {
                    m.invoke(x, a);
                } catch (java.lang.reflect.InvocationTargetException e) {
                    must(false, m.getName() + Arrays.toString(a) + " threw " + e.getCause());
                }
            }
        }
    }
}
