import java.io.IOException;
import java.lang.reflect.Constructor;
import java.lang.reflect.Field;
import java.lang.reflect.Method;
import java.lang.reflect.Modifier;
import java.nio.file.Files;
import java.nio.file.Path;
import java.util.Arrays;
import java.util.List;
import java.util.Set;
import java.util.TreeSet;
import java.util.regex.Matcher;
import java.util.regex.Pattern;

/** What of shared/LANGUAGE.md can be seen in the source and the compiled class, and the face of the document. */
public final class LanguageTest {
    private static final String FACE = "alone(int) awaits(int,int,int,int,int) back() claim(int,int,int,int) clean() "
            + "coming(int,int) could(int) count(int) days(int) end(int) fault(int) feed(int,int,int,int,int) "
            + "firsts(int,int) found(int,int) habit(int,int,int) have(int,int) image() joy(int,int,int) "
            + "kept(int,int,int) last(int) log(int,int) must(int) order(int,int,int) pairing(int) perform(int) "
            + "person(int,int) pledge(int,int,int,int,int) pledged(int,int) redeem(int) repeats(int,int) richest() "
            + "rings() run(int,int) sale(int,int) sell(int,int,int,int) spoil(int,int) steal(int,int,int) "
            + "step(int,int,int) sure() taste(int) text(int) theft(int) thing(int,int) undo() years(int,long)";
    private static final String[] NEVER = {
        "->", "::", "\\bfinally\\b", "\\btry\\b", "\\bcatch\\b", "\\bsynchronized\\b", "\\bassert\\b", "Exact\\(",
        "\\bstatic \\{", "\\bdouble\\b", "\\bfloat\\b", "\\bObject\\b", "\\bhashCode\\b", "\\btoString\\b",
        "\\bSystem\\.(?!arraycopy)", "\\bInteger\\.(?!bitCount)", "\\bArrays\\.(?!fill)", "\\bMath\\.(?!min\\(|max\\()",
        "\\bwhile \\(true\\)", "\\bfor \\(;;",
    };

    private LanguageTest() {
    }

    public static void main(String[] args) throws IOException {
        face();
        insides();
        source(Files.readString(Path.of("src/main/java/FirstTimes.java")));
        Told.close("LanguageTest");
    }

    private static void face() {
        Set<String> methods = new TreeSet<>();
        Set<String> names = new TreeSet<>();
        for (Method m : FirstTimes.class.getDeclaredMethods()) {
            if (Modifier.isPublic(m.getModifiers())) {
                StringBuilder s = new StringBuilder(m.getName()).append('(');
                for (Class<?> c : m.getParameterTypes()) {
                    s.append(s.charAt(s.length() - 1) == '(' ? "" : ",").append(c.getName());
                }
                methods.add(s.append(')').toString());
                names.add(m.getName());
                boolean truth = List.of("end", "taste", "theft").contains(m.getName());
                Told.due(m + " answers", m.getReturnType() == (truth ? boolean.class : int.class), true);
                Told.due(m + " throws", m.getExceptionTypes().length, m.getName().equals("person") ? 1 : 0);
            } else {
                Told.due(m + " is private", Modifier.isPrivate(m.getModifiers()), true);
            }
        }
        Told.due("the face", String.join(" ", methods), FACE);
        for (Field f : FirstTimes.class.getDeclaredFields()) {
            boolean open = List.of("NONE", "HIDDEN").contains(f.getName());
            int m = f.getModifiers();
            Told.due(f + " is seen", open ? Modifier.isPublic(m) : Modifier.isPrivate(m), true);
            Told.due(f + " is final if static", !Modifier.isStatic(m) || Modifier.isFinal(m), true);
        }
        Constructor<?>[] made = FirstTimes.class.getDeclaredConstructors();
        Told.due("one constructor", made.length == 1 && Modifier.isPublic(made[0].getModifiers()), true);
        Told.due("final", Modifier.isFinal(FirstTimes.class.getModifiers()), true);
        for (Class<?> c : FirstTimes.class.getDeclaredClasses()) {
            for (Method m : c.getDeclaredMethods()) {
                Told.due(c + "." + m.getName() + " has no name of the face", names.contains(m.getName()), false);
            }
        }
    }

    private static void insides() {
        Class<?>[] inside = FirstTimes.class.getDeclaredClasses();
        Told.due("some twelve classes", inside.length <= 12, true);
        for (Class<?> c : inside) {
            int m = c.getModifiers();
            Told.due(c + " is static and not public", Modifier.isStatic(m) && !Modifier.isPublic(m), true);
            Told.due(c + " has no class inside", c.getDeclaredClasses().length, 0);
            int fields = 0;
            for (Field f : c.getDeclaredFields()) {
                boolean fixed = Modifier.isStatic(f.getModifiers());
                fields += fixed ? 0 : 1;
                Told.due(f + " is final if static", !fixed || Modifier.isFinal(f.getModifiers()), true);
            }
            Told.due(c + " has some twenty fields at most", fields <= 20, true);
            for (Method method : c.getDeclaredMethods()) {
                Told.due(method + " takes seven at most", method.getParameterCount() <= 7, true);
            }
        }
    }

    private static void source(String text) {
        String code = text.replaceAll("(?s)/\\*.*?\\*/", "").replaceAll("//[^\n]*", "");
        for (String never : NEVER) {
            Matcher m = Pattern.compile(never).matcher(code);
            Told.due("the source has " + never, m.find() ? m.group() : "nothing", "nothing");
        }
        Set<String> imports = new TreeSet<>();
        Matcher m = Pattern.compile("(?m)^import (.*);$").matcher(code);
        while (m.find()) {
            imports.add(m.group(1));
        }
        Told.due("imports", imports.toString(), "[java.util.Arrays, java.util.NoSuchElementException]");
        Told.due("no package", code.contains("\npackage "), false);
        lengths(Arrays.asList(text.split("\n")));
    }

    /** A method ends at the brace that stands as far in as it began. */
    private static void lengths(List<String> lines) {
        Pattern begin = Pattern.compile("^( {4}| {8})[a-z].*\\) (throws \\w+ )?\\{$");
        for (int i = 0; i < lines.size(); i++) {
            Matcher m = begin.matcher(lines.get(i));
            if (m.matches()) {
                int end = i;
                while (end < lines.size() && !lines.get(end).equals(m.group(1) + "}")) {
                    end++;
                }
                Told.due(lines.get(i).trim() + " has sixty lines at most", end - i <= 60, true);
            }
            Told.due("line " + (i + 1) + " is ASCII", lines.get(i).chars().allMatch(c -> c < 128), true);
        }
    }
}
