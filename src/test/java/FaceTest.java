import java.io.IOException;
import java.lang.reflect.Constructor;
import java.lang.reflect.Field;
import java.lang.reflect.Method;
import java.lang.reflect.Modifier;
import java.nio.file.Files;
import java.nio.file.Path;
import java.util.Set;
import java.util.TreeSet;
import java.util.regex.Matcher;
import java.util.regex.Pattern;

/** The public face as the document has it, and the rules of LANGUAGE.md that can be looked up. */
public final class FaceTest {
    private static final Check check = new Check("FaceTest");
    private static final Path SOURCE = Path.of("src/main/java/FasterToBeLater.java");
    private static final String[] FACE = {
        "int row(int,int,int)", "int set(int,int,long)", "int copy(int,int,int,int,int)", "long element(int,int)",
        "int holds(int)", "int show(int,int)", "int says(int,int)", "int circles(int)", "int time(int,int)",
        "int cost(int,int)", "int ship(int,int,int,int)", "int fill(int,int)", "int feed(int)", "int wipe()",
        "int world()", "int shipOf(int,int)", "int circleOf(int,int)", "int can(int,int)", "int behind(int,int,int)",
        "int meets(int,int)", "int judge(int,int,int)", "int flown(int,int,int,int)", "int met(int,int,int,int)",
        "int cheapest(int,int,int)", "int soonest(int,int)", "int way(int,int,int)", "int round(int,int,int)",
        "int home(int,int)", "long again()", "int pass(int,int)", "int queue(int,int)", "int fullest()",
        "int clash(int)", "int burnt(int,int,int)", "int tag(int,int,int)", "int step(int)", "int change(int,int)",
        "int hand(int,int,int)", "int hurl(int,int,int)", "int bolts(int)", "int seed(int)", "int image()", "int back()",
        "int status(int)",
    };

    public static void main(String[] args) throws IOException {
        members();
        insideClasses();
        source();
        check.end();
    }

    private static void members() {
        Class<?> type = FasterToBeLater.class;
        check.due("public and final", type.getModifiers() & (Modifier.PUBLIC | Modifier.FINAL), Modifier.PUBLIC | Modifier.FINAL);
        Set<String> found = new TreeSet<>();
        for (Method m : type.getDeclaredMethods()) {
            if (!Modifier.isPrivate(m.getModifiers())) {
                check.due(m + " is public and not static", Modifier.isPublic(m.getModifiers()) && !Modifier.isStatic(m.getModifiers()) ? 1 : 0, 1);
                StringBuilder b = new StringBuilder().append(m.getReturnType()).append(' ').append(m.getName()).append('(');
                for (Class<?> p : m.getParameterTypes()) {
                    b.append(b.charAt(b.length() - 1) == '(' ? "" : ",").append(p);
                }
                found.add(b.append(')').toString());
            }
        }
        Set<String> due = new TreeSet<>(Set.of(FACE));
        check.due("the methods " + found, found.equals(due) ? 1 : 0, 1);
        check.due("constructors", type.getDeclaredConstructors().length, 1);
        for (Constructor<?> c : type.getDeclaredConstructors()) {
            check.due("the constructor", Modifier.isPublic(c.getModifiers()) ? c.getParameterCount() : -1, 0);
        }
        for (Field f : type.getDeclaredFields()) {
            boolean isNone = f.getName().equals("NONE") && Modifier.isPublic(f.getModifiers());
            check.due(f + " may be seen", isNone || Modifier.isPrivate(f.getModifiers()) ? 1 : 0, 1);
        }
        check.due("NONE", FasterToBeLater.NONE, -1);
    }

    private static void insideClasses() {
        Set<String> names = new TreeSet<>();
        for (String call : FACE) {
            names.add(call.substring(call.indexOf(' ') + 1, call.indexOf('(')));
        }
        Class<?>[] inside = FasterToBeLater.class.getDeclaredClasses();
        check.due("at most twelve classes", inside.length < 12 ? 1 : 0, 1);
        for (Class<?> type : inside) {
            check.due(type + " is static", Modifier.isStatic(type.getModifiers()) ? 1 : 0, 1);
            int fields = 0;
            for (Field f : type.getDeclaredFields()) {
                fields += Modifier.isStatic(f.getModifiers()) ? 0 : 1;
            }
            check.due(type + " has few fields", fields <= 20 ? 1 : 0, 1);
            for (Method m : type.getDeclaredMethods()) {
                check.due(m + " has no name of the face", names.contains(m.getName()) ? 1 : 0, 0);
            }
        }
        for (Method m : FasterToBeLater.class.getDeclaredMethods()) {
            boolean isHidden = Modifier.isPrivate(m.getModifiers());
            check.due(m + " has no name of the face", isHidden && names.contains(m.getName()) ? 1 : 0, 0);
            check.due(m + " has at most seven parameters", m.getParameterCount() <= 7 ? 1 : 0, 1);
        }
    }

    /** Words and signs that the rules leave out, looked for where no comment or text stands. */
    private static void source() throws IOException {
        String text = Files.readString(SOURCE);
        check.due("signs 1 to 127 alone", text.chars().allMatch(c -> c < 128) ? 1 : 0, 1);
        String bare = text.replaceAll("(?s)/\\*.*?\\*/", "").replaceAll("//[^\n]*", "").replaceAll("\"[^\"\n]*\"", "\"\"");
        String[] barred = {"throw", "throws", "try", "catch", "synchronized", "assert", "package", "System.out", "Exact",
            "->", "::", "Random", "Thread", "hashCode", "toString", "volatile", "native", "\"\" +", "+ \"\""};
        for (String word : barred) {
            boolean isWord = Character.isLetter(word.charAt(0));
            String sought = isWord ? "\\b" + Pattern.quote(word) + "\\b" : Pattern.quote(word);
            check.due("no " + word, Pattern.compile(sought).matcher(bare).find() ? 1 : 0, 0);
        }
        Matcher imports = Pattern.compile("(?m)^import (.*);$").matcher(bare);
        while (imports.find()) {
            check.due("import " + imports.group(1), imports.group(1).equals("java.util.Arrays") ? 1 : 0, 1);
        }
        Matcher library = Pattern.compile("\\b(System|Arrays|Math|Integer|Long)\\.(\\w+)").matcher(bare);
        Set<String> used = new TreeSet<>();
        while (library.find()) {
            used.add(library.group());
        }
        Set<String> known = Set.of("System.arraycopy", "Arrays.fill", "Math.max", "Math.min", "Math.abs", "Integer.bitCount");
        check.due("the library: " + used, known.containsAll(used) ? 1 : 0, 1);
    }
}
