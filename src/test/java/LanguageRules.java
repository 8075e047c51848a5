import java.io.IOException;
import java.lang.reflect.Constructor;
import java.lang.reflect.Field;
import java.lang.reflect.Method;
import java.lang.reflect.Modifier;
import java.nio.file.Files;
import java.nio.file.Path;
import java.util.ArrayList;
import java.util.Arrays;
import java.util.HashSet;
import java.util.List;
import java.util.Set;
import java.util.TreeSet;
import java.util.regex.Matcher;
import java.util.regex.Pattern;

/** What of LANGUAGE.md a look at the source and at the compiled face can tell. */
public final class LanguageRules {
    private static final String[] FORBIDDEN = {
        "\\bthrow\\b", "\\btry\\b", "\\bcatch\\b", "\\bfinally\\b", "\\bsynchronized\\b", "\\bassert\\b", "->", "::",
        "\\bvar\\b", "\\bimport\\b", "\\bpackage\\b", "\\bprotected\\b", "\\bfloat\\b", "\\bdouble\\b", "\\bObject\\b",
        "\\bThread\\b", "\\bRandom\\b", "Exact\\b", "\\bSystem\\.(?!arraycopy)", "\\bequals\\(", "\\bhashCode\\(",
        "\\btoString\\(", "static\\s*\\{", "\\byield\\b", "@", "\\?\\?", "\\bwhile\\s*\\(\\s*true"};
    private static final String FACE =
        "int state(int) int witness(int,int,int) boolean claim(int,int,int) boolean set(int,int,int) "
        + "int feed(int,int,int,int,int) boolean end(int) int text(int) int fault(int) int call(int,int,int) "
        + "int cross(int) boolean strike(int) int days(int) int trial() int of(int,int) int testimony(int,int) "
        + "int bar(int) int motive(int,int) int book(int,int) int keys(int,int,int) int fair(int,int,int,int) "
        + "int heard(int) int read(int,int) int duet(int,int) int best(int,int,int,int) int canon(int,int) "
        + "int weighed(int,int) int found(int) int calls(int,int,int) int choir(int) int worlds(int,int) "
        + "int chord(int,int,int,int,int,int) boolean undo() boolean image(boolean) int look(int)";

    private LanguageRules() {
    }

    public static void main(String[] args) throws IOException {
        face();
        List<Class<?>> all = new ArrayList<>(List.of(SungEvidence.class));
        all.addAll(Arrays.asList(SungEvidence.class.getDeclaredClasses()));
        Check.due("classes, twelve at most: " + all.size(), all.size() <= 12, true);
        Set<String> publicNames = new HashSet<>();
        for (Method m : SungEvidence.class.getMethods()) {
            publicNames.add(m.getName());
        }
        for (Class<?> c : all) {
            members(c, publicNames);
        }
        source(Files.readString(Path.of(args[0])));
        Check.close("LanguageRules");
    }

    private static void face() {
        Set<String> due = new TreeSet<>(Arrays.asList(FACE.replace(") ", ")\n").split("\n")));
        Set<String> got = new TreeSet<>();
        for (Method m : SungEvidence.class.getDeclaredMethods()) {
            if (Modifier.isPublic(m.getModifiers())) {
                String types = Arrays.toString(m.getParameterTypes()).replaceAll("[\\[\\] ]", "");
                got.add(m.getReturnType() + " " + m.getName() + "(" + types + ")");
            } else {
                Check.due(m + " is private", Modifier.isPrivate(m.getModifiers()), true);
            }
        }
        Check.due("the face is " + got, got.equals(due), true);
        int mods = SungEvidence.class.getModifiers();
        Check.due("public and final", Modifier.isPublic(mods) && Modifier.isFinal(mods), true);
        Constructor<?>[] made = SungEvidence.class.getDeclaredConstructors();
        Check.due("one constructor", made.length == 1 && made[0].getParameterCount() == 0, true);
        for (Field f : SungEvidence.class.getDeclaredFields()) {
            boolean none = f.getName().equals("NONE") && Modifier.isPublic(f.getModifiers());
            Check.due(f + " is private or NONE", none || Modifier.isPrivate(f.getModifiers()), true);
        }
        for (Class<?> c : SungEvidence.class.getDeclaredClasses()) {
            boolean hidden = !Modifier.isPublic(c.getModifiers()) && !Modifier.isProtected(c.getModifiers());
            Check.due(c + " is static and hidden", hidden && Modifier.isStatic(c.getModifiers()), true);
        }
    }

    private static void members(Class<?> c, Set<String> publicNames) {
        int fields = 0;
        for (Field f : c.getDeclaredFields()) {
            if (Modifier.isStatic(f.getModifiers())) {
                boolean constant = f.getType().isPrimitive() || f.getType() == String.class;
                Check.due(f + " is a constant", constant && Modifier.isFinal(f.getModifiers()), true);
            } else {
                fields++;
            }
        }
        Check.due(c + " has twenty fields at most: " + fields, fields <= 20, true);
        for (Method m : c.getDeclaredMethods()) {
            Check.due(m + " has seven parameters at most", m.getParameterCount() <= 7, true);
            boolean taken = !Modifier.isPublic(m.getModifiers()) && publicNames.contains(m.getName());
            Check.due(m + " bears a public one's name", taken, false);
        }
    }

    private static void source(String text) {
        String bare = text.replaceAll("(?s)/\\*.*?\\*/", " ").replaceAll("//[^\n]*", " ")
            .replaceAll("\"[^\"\n]*\"", "\"\"");
        for (String pattern : FORBIDDEN) {
            Matcher m = Pattern.compile(pattern).matcher(bare);
            Check.due("the source holds " + pattern, m.find(), false);
        }
        for (int i = 0; i < text.length(); i++) {
            if (text.charAt(i) > 126) {
                Check.due("a sign above 126 at " + i, text.charAt(i), 0);
            }
        }
        int length = 0;
        String name = "";
        for (String line : text.split("\n")) {
            if (line.matches("( {4}| {8})[a-z].*\\) \\{")) {
                name = line.trim();
                length = 0;
            }
            length++;
            if (line.matches("( {4}| {8})\\}")) {
                Check.due(name + " has sixty lines at most: " + length, length <= 60 || name.isEmpty(), true);
                name = "";
            }
        }
    }
}
