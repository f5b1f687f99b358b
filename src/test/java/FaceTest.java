import java.lang.reflect.Constructor;
import java.lang.reflect.Field;
import java.lang.reflect.Method;
import java.lang.reflect.Modifier;
import java.nio.file.Files;
import java.nio.file.Path;
import java.util.Arrays;
import java.util.HashSet;
import java.util.Set;
import java.util.TreeSet;
import java.util.regex.Matcher;
import java.util.regex.Pattern;

/** The public face is the document's, and the source keeps to what of LANGUAGE.md can be looked up in it. */
public final class FaceTest {
    private static final Check C = new Check();
    private static final String FACE =
        "machine(int,int,int) alive(int,boolean) line(int,int,int) slip(int,int) over(int) pulse(int) bring(int) "
        + "unison() about(int,int) ribbon(int,int) wrong(int) tear() sign(int) cut(int,int,int) clear() rowAt(int) "
        + "send() firm(int,int,int,int) shorts(boolean) last(int) write(int,int,int) read(int) readAt(int,int) take() "
        + "add(int,int,int,int,int) drop() minutes(int) most(int,int) orderAt(int,int) tape(int,int) "
        + "price(int,int,int) repair() repairAt(int) mend() cost(int,int) often(int) count(int) digest()";

    public static void main(String[] args) throws Exception {
        theFace();
        constants();
        classesInside();
        String source = Files.readString(Path.of(System.getProperty("project", "."), "src/main/java/TickerHouse.java"));
        forbiddenWords(source);
        lengths(source);
        C.end();
    }

    private static void theFace() {
        Class<?> c = TickerHouse.class;
        C.holds("public and final", Modifier.isPublic(c.getModifiers()) && Modifier.isFinal(c.getModifiers()));
        Set<String> names = new HashSet<>();
        Set<String> found = new TreeSet<>();
        for (Method m : c.getDeclaredMethods()) {
            if (Modifier.isPublic(m.getModifiers())) {
                StringBuilder s = new StringBuilder(m.getName()).append('(');
                for (Class<?> p : m.getParameterTypes()) {
                    s.append(s.charAt(s.length() - 1) == '(' ? "" : ",").append(p.getName());
                }
                found.add(s.append(')').toString());
                names.add(m.getName());
                C.holds(m.getName() + ": type", m.getReturnType() == (m.getName().equals("digest") ? long.class : int.class));
            }
        }
        C.holds("the document's methods, no other: " + found, found.equals(new TreeSet<>(Arrays.asList(FACE.split(" ")))));
        for (Method m : c.getDeclaredMethods()) {
            boolean isPublic = Modifier.isPublic(m.getModifiers());
            C.holds(m.getName() + ": public or private", isPublic || Modifier.isPrivate(m.getModifiers()));
            C.holds(m.getName() + ": no private one bears that name", isPublic || !names.contains(m.getName()));
        }
        C.due("constructors", c.getDeclaredConstructors().length, 1);
        for (Constructor<?> k : c.getDeclaredConstructors()) {
            C.holds("public, without arguments", Modifier.isPublic(k.getModifiers()) && k.getParameterCount() == 0);
        }
    }

    private static void constants() throws Exception {
        String[] names = {"NONE", "BAD", "NO", "FULL", "SPENT"};
        for (int i = 0; i < names.length; i++) {
            Field f = TickerHouse.class.getField(names[i]);
            C.due(names[i], f.getInt(null), -1 - i);
            C.holds(names[i] + ": an int, final", f.getType() == int.class && Modifier.isFinal(f.getModifiers()));
        }
        C.due("public fields", TickerHouse.class.getFields().length, names.length);
        for (Field f : TickerHouse.class.getDeclaredFields()) {
            boolean seen = Modifier.isPublic(f.getModifiers());
            C.holds(f.getName() + ": public or private", seen || Modifier.isPrivate(f.getModifiers()));
        }
    }

    private static void classesInside() {
        Class<?>[] inside = TickerHouse.class.getDeclaredClasses();
        C.holds("twelve classes at most", inside.length <= 11);
        for (Class<?> c : inside) {
            C.holds(c.getName() + " is static", Modifier.isStatic(c.getModifiers()));
            int fields = 0;
            for (Field f : c.getDeclaredFields()) {
                boolean isStatic = Modifier.isStatic(f.getModifiers());
                fields += isStatic ? 0 : 1;
                C.holds(f.getName() + ": static ones are final", !isStatic || Modifier.isFinal(f.getModifiers()));
            }
            C.holds(c.getName() + ": twenty fields at most", fields <= 20);
            for (Method m : c.getDeclaredMethods()) {
                C.holds(m.getName() + ": seven parameters at most", m.getParameterCount() <= 7);
            }
        }
    }

    private static void forbiddenWords(String source) {
        String bare = source.replaceAll("(?s)/\\*.*?\\*/", " ").replaceAll("//[^\n]*", " ");
        String[] words = {"throw", "throws", "try", "catch", "finally", "synchronized", "assert", "instanceof", "package",
            "Exact", "Random", "System.out", "currentTimeMillis", "nanoTime", "->", "::", "equals", "hashCode", "toString"};
        for (String word : words) {
            String edge = Character.isLetter(word.charAt(0)) ? "\\b" : "";
            C.holds("no " + word, !Pattern.compile(edge + Pattern.quote(word) + edge).matcher(bare).find());
        }
        Matcher imports = Pattern.compile("import ([^;]*);").matcher(bare);
        while (imports.find()) {
            C.holds("import " + imports.group(1), imports.group(1).equals("java.util.Arrays"));
        }
        Matcher calls = Pattern.compile("\\b(Arrays|System|Math|Integer|Long|String)\\.(\\w+)").matcher(bare);
        Set<String> allowed = new HashSet<>(Arrays.asList("Arrays.fill", "System.arraycopy", "Math.max", "Math.min",
            "Math.floorMod", "Integer.bitCount"));
        while (calls.find()) {
            C.holds(calls.group() + " is listed", allowed.contains(calls.group()));
        }
    }

    /** Methods stand at four or eight spaces; from a head to the brace that closes it are its lines. */
    private static void lengths(String source) {
        String[] lines = source.split("\n");
        for (int i = 0; i < lines.length; i++) {
            Matcher head = Pattern.compile("^( {4}| {8})\\w[^=;]*\\) \\{$").matcher(lines[i]);
            if (head.find()) {
                int end = i;
                while (!lines[end].equals(head.group(1) + "}")) {
                    end++;
                }
                C.holds(lines[i].trim() + ": " + (end - i + 1) + " lines", end - i + 1 <= 60);
            }
        }
    }
}
