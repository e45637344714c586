import java.lang.reflect.Field;
import java.lang.reflect.Method;
import java.lang.reflect.Modifier;
import java.nio.file.Files;
import java.nio.file.Path;
import java.util.Arrays;
import java.util.HashSet;
import java.util.List;
import java.util.Set;
import java.util.TreeSet;
import java.util.regex.Matcher;
import java.util.regex.Pattern;

/** What of ../shared/LANGUAGE.md can be seen from outside: the face, and words that the program may not use. */
public final class RulesTest {
    private static final String SOURCE = "src/main/java/BrokenThree.java";
    private static final List<String> FACE = List.of(
            "int feed(int)", "int yard()", "int breaker(int,int)", "int of(int,int)", "int row(int,int,int)",
            "int told(int)", "int piece(int)", "int breaks(int,int)", "int whole()", "int shape(int)",
            "long likely(int,int,int,int)", "long mean(int,int,int)", "long costs(int,int)", "long until(int,int)",
            "long hidden(int,int,int,int)", "int box(int)", "int triangles()", "long drawn(int)", "int none(int)",
            "int stair(int)", "int sawn(int,int)", "int see(int)", "int orders(int)", "long chance(int,int)",
            "int lost(int)", "int who()", "int likeliest()", "int book(int,int,int,boolean)", "int looked()",
            "int act(int,int,int)", "int trace(int)", "int as(int,int)", "int image()", "int undo()", "int count(int)");

    public static void main(String[] args) throws Exception {
        face();
        constants();
        classes();
        words();
        methodLengths();
        Due.end("RulesTest");
    }

    private static void face() {
        Due.promise(1, "the public face");
        Class<?> c = BrokenThree.class;
        Due.holds("public and final", Modifier.isPublic(c.getModifiers()) && Modifier.isFinal(c.getModifiers()));
        Due.is("constructors", c.getDeclaredConstructors().length, 1);
        Set<String> open = new TreeSet<>();
        Set<String> names = new HashSet<>();
        for (Method m : c.getDeclaredMethods()) {
            if (Modifier.isPublic(m.getModifiers())) {
                names.add(m.getName());
                open.add(m.getReturnType() + " " + m.getName()
                        + Arrays.toString(m.getParameterTypes()).replace('[', '(').replace(']', ')').replace(" ", ""));
            } else {
                Due.holds(m + " is private", Modifier.isPrivate(m.getModifiers()));
            }
        }
        Due.holds("the face is " + open, open.equals(new TreeSet<>(FACE)));
        for (Class<?> each : classesOfAll()) {
            for (Method m : each.getDeclaredMethods()) {
                boolean named = Modifier.isPrivate(m.getModifiers()) && names.contains(m.getName());
                Due.holds(m + " bears no public name", !named);
                Due.holds(m + " has seven parameters at most", m.getParameterCount() <= 7);
            }
        }
    }

    private static void constants() throws Exception {
        Due.is("NONE", BrokenThree.NONE, -1);
        Due.is("BAD", BrokenThree.BAD, -2);
        Due.is("STATE", BrokenThree.STATE, -3);
        Due.is("FULL", BrokenThree.FULL, -4);
        Due.is("NO", BrokenThree.NO, Long.MIN_VALUE);
        Set<String> open = new TreeSet<>();
        for (Field f : BrokenThree.class.getDeclaredFields()) {
            if (!Modifier.isPrivate(f.getModifiers())) {
                open.add(f.getName());
            }
        }
        Due.holds("open fields " + open, open.equals(new TreeSet<>(List.of("NONE", "BAD", "STATE", "FULL", "NO"))));
    }

    private static List<Class<?>> classesOfAll() {
        List<Class<?>> all = new java.util.ArrayList<>(List.of(BrokenThree.class));
        all.addAll(Arrays.asList(BrokenThree.class.getDeclaredClasses()));
        return all;
    }

    private static void classes() {
        Due.holds("twelve classes at most", classesOfAll().size() <= 12);
        for (Class<?> c : classesOfAll()) {
            int fields = 0;
            for (Field f : c.getDeclaredFields()) {
                fields += Modifier.isStatic(f.getModifiers()) ? 0 : 1;
                Due.holds(f + " is no state of all", !Modifier.isStatic(f.getModifiers()) || Modifier.isFinal(f.getModifiers()));
            }
            Due.holds(c + " has twenty fields at most", fields <= 20);
            Due.holds(c + " is static", c == BrokenThree.class || Modifier.isStatic(c.getModifiers()));
        }
    }

    private static String bareSource() throws Exception {
        String source = Files.readString(Path.of(SOURCE));
        Due.holds("signs up to 127 alone", source.chars().allMatch(sign -> sign < 128));
        return source.replaceAll("(?s)/\\*.*?\\*/", "").replaceAll("//[^\n]*", "").replaceAll("'[^'\n]*'", "' '");
    }

    private static void words() throws Exception {
        String source = bareSource();
        String[] never = {"throw", "throws", "try", "catch", "finally", "synchronized", "assert", "package", "native",
            "volatile", "protected", "Thread", "Random", "Object", "Exception"};
        for (String word : never) {
            Due.holds("no " + word, !Pattern.compile("\\b" + word + "\\b").matcher(source).find());
        }
        for (String sign : new String[] {"::", "Exact(", "static {"}) {
            Due.holds("no " + sign, !source.contains(sign));
        }
        Due.holds("no lambda", !Pattern.compile("(?m)^(?!\\s*(case\\b|default\\b)).*->").matcher(source).find());
        Due.holds("of System arraycopy alone", !Pattern.compile("\\bSystem\\.(?!arraycopy\\b)").matcher(source).find());
        Matcher imported = Pattern.compile("(?m)^import (.*);").matcher(source);
        while (imported.find()) {
            Due.holds("import of " + imported.group(1),
                    imported.group(1).matches("java\\.util\\.(ArrayList|List|Arrays|Iterator)"));
        }
    }

    private static void methodLengths() throws Exception {
        int start = -1;
        String[] lines = Files.readString(Path.of(SOURCE)).split("\n");
        Pattern head = Pattern.compile("( {4}| {8})(public|private)[^=;]*\\{");
        for (int i = 0; i < lines.length; i++) {
            if (head.matcher(lines[i]).matches() && !lines[i].contains(" class ")) {
                start = i;
            }
            if (start >= 0 && lines[i].matches(" {4,8}\\}")
                    && lines[i].indexOf('}') == lines[start].length() - lines[start].stripLeading().length()) {
                Due.holds("the method of line " + (start + 1) + " is short", i - start < 60);
                start = -1;
            }
        }
    }
}
