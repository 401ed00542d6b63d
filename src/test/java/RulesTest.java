import java.io.IOException;
import java.lang.reflect.Constructor;
import java.lang.reflect.Field;
import java.lang.reflect.Method;
import java.lang.reflect.Modifier;
import java.nio.file.Files;
import java.nio.file.Path;
import java.util.Arrays;
import java.util.Set;
import java.util.TreeSet;
import java.util.regex.Matcher;
import java.util.regex.Pattern;

/** The document's face, and those rules of LANGUAGE.md that can be seen from the code's shape. */
public final class RulesTest {
    private static final String FACE = "set(int,int) machine(int) cloth(int,int) ofCloth(int,int) change(int,int,int) "
        + "become(int,int) as(int,int) feed(long,int) text(int) law(int,int,int,int) sew(int,int) deed(int) loose(int) "
        + "after(int,int) until(int) cure(int,int) alone(int) canBe(int,int) tellsMost(int) knobWas(int,int,int) "
        + "row(int,int,int) odds(int,int) seed(int) voice(int,int,int) trace(int) sheet(int,int,int) put(int,int,int) "
        + "move(int,int,int,int,int) thicks(int) judge(int) image() restore() tell(int) check() count(int) told(int)";

    public static void main(String[] args) throws IOException {
        face();
        classesInside();
        words();
        Due.end();
    }

    private static void face() {
        Set<String> seen = new TreeSet<>();
        Set<String> names = new TreeSet<>();
        for (Method m : LoopsBelow.class.getDeclaredMethods()) {
            if (Modifier.isPublic(m.getModifiers())) {
                Due.is(m + " answers an int", m.getReturnType() == int.class ? 1 : 0, 1);
                seen.add(signature(m));
                names.add(m.getName());
            } else {
                Due.is(m + " is private", Modifier.isPrivate(m.getModifiers()) ? 1 : 0, 1);
            }
        }
        Set<String> want = new TreeSet<>(Arrays.asList(FACE.split(" ")));
        Due.is("the face " + seen, seen.equals(want) ? 1 : 0, 1);
        for (Method m : LoopsBelow.class.getDeclaredMethods()) {
            Due.is(m + " bears no public one's name", !Modifier.isPublic(m.getModifiers()) && names.contains(m.getName()) ? 1 : 0, 0);
        }
        Constructor<?>[] made = LoopsBelow.class.getDeclaredConstructors();
        Due.is("one constructor", made.length, 1);
        Due.is("a public one", Modifier.isPublic(made[0].getModifiers()) ? 1 : 0, 1);
        Due.is("public and final", LoopsBelow.class.getModifiers() & (Modifier.PUBLIC | Modifier.FINAL), Modifier.PUBLIC | Modifier.FINAL);
    }

    private static String signature(Method m) {
        StringBuilder s = new StringBuilder(m.getName()).append('(');
        for (Class<?> c : m.getParameterTypes()) {
            s.append(s.charAt(s.length() - 1) == '(' ? "" : ",").append(c.getName());
        }
        return s.append(')').toString();
    }

    private static void classesInside() {
        Class<?>[] inside = LoopsBelow.class.getDeclaredClasses();
        Due.is("at most twelve classes", inside.length < 12 ? 1 : 0, 1);
        for (Field f : LoopsBelow.class.getDeclaredFields()) {
            Due.is(f + " is private", Modifier.isPrivate(f.getModifiers()) ? 1 : 0, 1);
        }
        for (Class<?> c : inside) {
            Due.is(c + " is static", Modifier.isStatic(c.getModifiers()) ? 1 : 0, 1);
            Due.is(c + " isn't public", c.getModifiers() & (Modifier.PUBLIC | Modifier.PROTECTED), 0);
            fewFields(c);
        }
        fewFields(LoopsBelow.class);
    }

    private static void fewFields(Class<?> c) {
        int fields = 0;
        for (Field f : c.getDeclaredFields()) {
            if (!Modifier.isStatic(f.getModifiers())) {
                fields++;
            } else {
                Due.is(f + " is final", Modifier.isFinal(f.getModifiers()) ? 1 : 0, 1);
            }
        }
        Due.is(c + " has at most twenty fields", fields <= 20 ? 1 : 0, 1);
        for (Method m : c.getDeclaredMethods()) {
            Due.is(m + " takes at most seven", m.getParameterCount() <= 7 ? 1 : 0, 1);
        }
    }

    private static void words() throws IOException {
        String code = Files.readString(Path.of("src/main/java/LoopsBelow.java"));
        Due.is("signs of 1 to 127 alone", code.chars().anyMatch(c -> c < 1 || c > 127) ? 1 : 0, 0);
        String bare = code.replaceAll("(?s)/\\*.*?\\*/", "").replaceAll("//[^\n]*", "");
        for (String word : "throw throws try catch finally synchronized assert float double Object native volatile package".split(" ")) {
            Due.is("no " + word, Pattern.compile("\\b" + word + "\\b").matcher(bare).find() ? 1 : 0, 0);
        }
        Due.is("no lambda", bare.contains("->") ? 1 : 0, 0);
        Due.is("no method reference", bare.contains("::") ? 1 : 0, 0);
        Due.is("no Exact", bare.contains("Exact") ? 1 : 0, 0);
        Matcher imports = Pattern.compile("import ([^;]*);").matcher(bare);
        while (imports.find()) {
            Due.is("import " + imports.group(1), imports.group(1).equals("java.util.Arrays") ? 1 : 0, 1);
        }
        Matcher library = Pattern.compile("\\b(System|Math|Arrays|Integer|Long)\\.(\\w+)").matcher(bare);
        Set<String> fine = Set.of("System.arraycopy", "Math.min", "Math.max", "Math.abs", "Arrays.fill");
        while (library.find()) {
            Due.is(library.group(), fine.contains(library.group()) ? 1 : 0, 1);
        }
        shortMethods(code);
    }

    /** A method begins with a line that ends in ") {" at its class's depth and ends with a lone brace there. */
    private static void shortMethods(String code) {
        String[] lines = code.split("\n");
        for (String indent : new String[] {"    ", "        "}) {
            int begun = -1;
            for (int i = 0; i < lines.length; i++) {
                if (lines[i].matches(indent + "\\w.*\\) \\{")) {
                    begun = i;
                } else if (lines[i].equals(indent + "}") && begun >= 0) {
                    Due.is("method of line " + (begun + 1) + " is short", i - begun < 60 ? 1 : 0, 1);
                    begun = -1;
                }
            }
        }
    }
}
