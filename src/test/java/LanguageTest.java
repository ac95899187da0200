import java.io.IOException;
import java.lang.reflect.Field;
import java.lang.reflect.Method;
import java.lang.reflect.Modifier;
import java.nio.file.Files;
import java.nio.file.Path;
import java.util.ArrayList;
import java.util.Arrays;
import java.util.HashSet;
import java.util.List;
import java.util.Set;
import java.util.TreeSet;
import java.util.regex.Matcher;
import java.util.regex.Pattern;

/** The public face and those rules of LANGUAGE.md that a look at the text or at the class can judge. */
public final class LanguageTest {
    private static final String FACE = "feed:int:5 desk:int:1 fault:int:1 input:int:2 flow:long:2 open:int:1 off:int:1 opens:int:2 "
            + "business:int:2 period:int:2 bump:int:2 shift:int:1 amount:int:2 undo:int:1 judge:int:2 perform:int:1 week:int:2 "
            + "pillars:int:0 pillar:int:2 factor:int:1 forward:int:2 implied:int:1 sound:int:0 falls:int:2 moves:int:1 worth:long:0 "
            + "move:long:1 bumped:long:2 mover:int:0 breaks:int:1 hang:long:1 flat:long:1 left:long:1 shifts:int:1 ask:int:1 "
            + "chance:int:4 mean:long:3 numbers:int:3 write:long:3 lists:int:1 image:int:1 restore:int:1 count:int:1";

    public static void main(String[] args) throws IOException {
        face();
        insides();
        text(plain(Files.readString(source())));
        Kit.end();
    }

    private static Path source() {
        return Path.of("src/main/java/PillarDesk.java");
    }

    private static void face() {
        Set<String> want = new TreeSet<>(Arrays.asList(FACE.split(" ")));
        Set<String> got = new TreeSet<>();
        for (Method m : PillarDesk.class.getDeclaredMethods()) {
            String name = m.getName() + ":" + m.getReturnType() + ":" + m.getParameterCount();
            if (!Modifier.isPrivate(m.getModifiers())) {
                got.add(name);
                Kit.due(name + " is public, not static", Modifier.isPublic(m.getModifiers()) && !Modifier.isStatic(m.getModifiers()) ? 1 : 0, 1);
            }
        }
        Kit.due("methods " + got, got.equals(want) ? 1 : 0, 1);
        Kit.due("constructors", PillarDesk.class.getConstructors().length, 1);
        Kit.due("all constructors", PillarDesk.class.getDeclaredConstructors().length, 1);
        Kit.due("final", Modifier.isFinal(PillarDesk.class.getModifiers()) ? 1 : 0, 1);
        Kit.due("NONE", PillarDesk.NONE, -1);
        for (Field f : PillarDesk.class.getDeclaredFields()) {
            boolean isNone = f.getName().equals("NONE");
            Kit.due(f.getName() + " is private", Modifier.isPrivate(f.getModifiers()) ? 1 : 0, isNone ? 0 : 1);
        }
    }

    private static void insides() {
        Set<String> open = new HashSet<>();
        for (String s : FACE.split(" ")) {
            open.add(s.substring(0, s.indexOf(':')));
        }
        List<Class<?>> all = new ArrayList<>(List.of(PillarDesk.class));
        all.addAll(Arrays.asList(PillarDesk.class.getDeclaredClasses()));
        Kit.due("classes, some twelve", all.size() <= 12 ? 1 : 0, 1);
        for (Class<?> c : all) {
            int own = 0;
            for (Field f : c.getDeclaredFields()) {
                boolean isStatic = Modifier.isStatic(f.getModifiers());
                own += isStatic ? 0 : 1;
                Kit.due(c + "." + f.getName() + " static and final", isStatic && !Modifier.isFinal(f.getModifiers()) ? 1 : 0, 0);
                boolean plain = f.getType() == int.class || f.getType() == long.class || f.getType() == String.class;
                Kit.due(c + "." + f.getName() + " a plain constant", isStatic && !plain ? 1 : 0, 0);
            }
            Kit.due(c + ": fields, some twenty", own <= 20 ? 1 : 0, 1);
            for (Method m : c.getDeclaredMethods()) {
                Kit.due(c + "." + m.getName() + " parameters", m.getParameterCount() <= 7 ? 1 : 0, 1);
                boolean twice = open.contains(m.getName()) && !Modifier.isPublic(m.getModifiers());
                Kit.due(c + "." + m.getName() + " bears a public name", twice ? 1 : 0, 0);
            }
        }
        for (Class<?> c : PillarDesk.class.getDeclaredClasses()) {
            Kit.due(c + " is static", Modifier.isStatic(c.getModifiers()) ? 1 : 0, 1);
            Kit.due(c + " is not public", Modifier.isPublic(c.getModifiers()) ? 1 : 0, 0);
        }
    }

    /** The source without comments and without what stands in quotes. */
    private static String plain(String source) {
        return source.replaceAll("(?s)/\\*.*?\\*/", "").replaceAll("//[^\n]*", "").replaceAll("\"[^\"\n]*\"", "\"\"");
    }

    private static void text(String plain) {
        String[] banned = {"\\bthrow\\b", "\\bthrows\\b", "\\btry\\b", "\\bcatch\\b", "\\bassert\\b", "\\bsynchronized\\b", "->", "::",
            "\\bdouble\\b", "\\bfloat\\b", "\"\"\\s*\\+", "\\+\\s*\"\"", "Exact\\b", "\\bSystem\\.(?!arraycopy)", "\\bObject\\b",
            "\\bvar\\b", "hashCode", "toString", "instanceof", "\\bwhile\\s*\\(true\\)", "for\\s*\\(;;", "@\\w+", "\\bstatic\\s*\\{"};
        for (String b : banned) {
            Matcher m = Pattern.compile(b).matcher(plain);
            Kit.due("banned: " + b, m.find() ? 1 : 0, 0);
        }
        Matcher imports = Pattern.compile("(?m)^import ([^;]+);").matcher(plain);
        while (imports.find()) {
            Kit.due("import " + imports.group(1), Set.of("java.util.Arrays", "java.util.ArrayList", "java.util.List").contains(imports.group(1)) ? 1 : 0, 1);
        }
        Kit.due("no package", Pattern.compile("(?m)^package ").matcher(plain).find() ? 1 : 0, 0);
        String[] lines = plain.split("\n");
        int begun = -1;
        for (int k = 0; k < lines.length; k++) {
            if (lines[k].matches("( {4}| {8})[^ ].*\\) \\{")) {
                begun = k;
            } else if (begun >= 0 && lines[k].matches("( {4}| {8})\\}")) {
                Kit.due("lines of " + lines[begun].trim(), k - begun <= 60 ? 1 : 0, 1);
                begun = -1;
            }
        }
    }
}
