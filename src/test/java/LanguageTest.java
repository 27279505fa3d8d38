import java.lang.reflect.Executable;
import java.lang.reflect.Field;
import java.lang.reflect.Method;
import java.lang.reflect.Modifier;
import java.nio.file.Files;
import java.nio.file.Path;
import java.util.ArrayList;
import java.util.Arrays;
import java.util.List;
import java.util.TreeSet;
import java.util.regex.Matcher;
import java.util.regex.Pattern;

/** What can be seen by machine of ../shared/LANGUAGE.md and of the public face. Argument: the source's path. */
public final class LanguageTest {
    private static final String FACE = "again(int):boolean count(int):int deed(int,int,int):int dinner(int,int,int):int "
        + "drawn(int,int,int,int,int):int end(int):int fault(int):int feed(int,int,int,int,int):int "
        + "fits(int,int,int,int):int flags(int,int):int gain(int,int,int):int gallery(int,int):int "
        + "guest(int,int):int hung(int,int,int):int image(int):boolean loom(int,int):long "
        + "minds(int,int,int,int,int):int mix(int,int,int,int):int palette(int,int):int "
        + "repainted(int,int,int):int rest(int,int):int row(int,int,int):int rows(int,int):long "
        + "rule(int,int,int):int sneeze(int,int,int):int spread(int,int,boolean):int "
        + "state(int,int,int,int,int):int stop(int,int,int):int strength(int,int,int):int text(int,int):int "
        + "thread(int,int,int):int ways(int,int):long";
    private static final String[] NEVER = {"throw", "try", "catch", "synchronized", "assert", "import", "package",
        "Object", "static {", "->", "::", "finally", "goto", "native", "volatile", "transient", "Exception", "\" +",
        "+ \"", "equals(Object", "hashCode", "toString()", "System.out", "Random", "Thread", "double", "float"};

    private static final List<String> LIBRARY = List.of("Math.abs", "Math.max", "Math.min", "Integer.bitCount",
        "System.arraycopy", "Line.values");
    private static final Pattern OF_A_CLASS = Pattern.compile("\\b([A-Z][a-z]+[A-Za-z]*\\.[a-z]\\w*)");

    private static int wrong;

    public static void main(String[] args) throws Exception {
        face();
        classes();
        source(Files.readString(Path.of(args.length > 0 ? args[0] : "src/main/java/HueRash.java")));
        System.out.println("LanguageTest: " + wrong + " wrong");
        if (wrong != 0) {
            System.exit(1);
        }
    }

    private static void check(boolean fine, String what) {
        if (!fine) {
            wrong++;
            System.out.println("rule broken: " + what);
        }
    }

    private static void face() throws Exception {
        TreeSet<String> open = new TreeSet<>();
        TreeSet<String> hidden = new TreeSet<>();
        for (Method m : HueRash.class.getDeclaredMethods()) {
            if (Modifier.isPrivate(m.getModifiers())) {
                hidden.add(m.getName());
            } else {
                check(Modifier.isPublic(m.getModifiers()) && !Modifier.isStatic(m.getModifiers()), m.getName());
                StringBuilder b = new StringBuilder(m.getName()).append('(');
                for (Class<?> p : m.getParameterTypes()) {
                    b.append(b.charAt(b.length() - 1) == '(' ? "" : ",").append(p.getSimpleName());
                }
                open.add(b.append("):").append(m.getReturnType().getSimpleName()).toString());
            }
        }
        check(open.equals(new TreeSet<>(Arrays.asList(FACE.split(" ")))), "face " + open);
        for (String name : open) {
            check(!hidden.contains(name.substring(0, name.indexOf('('))), "private namesake of " + name);
        }
        check(HueRash.class.getDeclaredConstructors().length == 1 && HueRash.class.getConstructors().length == 1,
            "constructor");
        check(Modifier.isFinal(HueRash.class.getModifiers()), "final");
        for (Field f : HueRash.class.getDeclaredFields()) {
            boolean none = f.getName().equals("NONE") && f.getModifiers() == (1 | 8 | 16);
            check(none || Modifier.isPrivate(f.getModifiers()), "field " + f.getName());
        }
    }

    private static void classes() {
        List<Class<?>> all = new ArrayList<>(Arrays.asList(HueRash.class.getDeclaredClasses()));
        all.add(HueRash.class);
        check(all.size() <= 12, "classes " + all.size());
        for (Class<?> c : all) {
            int own = 0;
            for (Field f : c.getDeclaredFields()) {
                boolean fixed = Modifier.isStatic(f.getModifiers());
                check(!fixed || Modifier.isFinal(f.getModifiers()), "static " + f);
                own += fixed ? 0 : 1;
            }
            check(own <= 20, "fields of " + c + " " + own);
            check(c == HueRash.class || Modifier.isStatic(c.getModifiers()), "static " + c);
            check(c == HueRash.class || !Modifier.isPublic(c.getModifiers()), "hidden " + c);
            List<Executable> calls = new ArrayList<>(Arrays.asList(c.getDeclaredMethods()));
            if (!c.isEnum()) {
                calls.addAll(Arrays.asList(c.getDeclaredConstructors()));
            }
            for (Executable e : calls) {
                boolean namesake = c != HueRash.class && (" " + FACE).contains(" " + e.getName() + "(");
                check(!namesake, "namesake " + e);
                check(e.getParameterCount() <= 7, "parameters of " + e);
            }
        }
    }

    private static void source(String text) {
        for (int k = 0; k < text.length(); k++) {
            check(text.charAt(k) < 128, "sign at " + k);
        }
        int start = 0;
        String[] lines = text.split("\n");
        for (int k = 0; k < lines.length; k++) {
            String line = lines[k].replaceAll("//.*", "");
            if (line.trim().startsWith("*") || line.trim().startsWith("/**")) {
                continue;
            }
            for (String word : NEVER) {
                boolean letters = Character.isLetter(word.charAt(0));
                boolean found = letters && !word.contains(" ") && !word.contains("(")
                    ? line.matches(".*\\b" + word.replace(".", "\\.") + "\\b.*") : line.contains(word);
                check(!found, word + " in line " + (k + 1));
            }
            Matcher used = OF_A_CLASS.matcher(line);
            while (used.find()) {
                check(LIBRARY.contains(used.group(1)), used.group(1) + " in line " + (k + 1));
            }
            check(lines[k].length() <= 120, "length of line " + (k + 1));
            if (line.matches(" {4,8}\\S.*\\) \\{")) {
                start = k;
            }
            if (line.matches(" {4,8}\\}")) {
                check(k - start <= 60 || line.startsWith("    }"), "length of the method that ends in " + (k + 1));
            }
        }
    }
}
