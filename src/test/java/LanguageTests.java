import java.io.IOException;
import java.lang.reflect.Constructor;
import java.lang.reflect.Field;
import java.lang.reflect.Method;
import java.lang.reflect.Modifier;
import java.nio.file.Files;
import java.nio.file.Path;
import java.util.Arrays;
import java.util.Map;
import java.util.Set;
import java.util.TreeMap;
import java.util.TreeSet;
import java.util.regex.Matcher;
import java.util.regex.Pattern;

/** The rules of ../shared/LANGUAGE.md that the text and the compiled class can show. */
public final class LanguageTests {
    private static final int LONGEST_METHOD = 60, DEEPEST_CALL = 8;
    private static final String[] FORBIDDEN = {"import", "package", "throw", "throws", "try", "catch", "finally",
        "synchronized", "assert", "native", "volatile", "transient", "instanceof", "Object", "Random", "System",
        "Thread", "equals", "hashCode", "toString", "float", "double"};
    private static final String CALLS = "egg(int,int,int) eggs(int) stove(int,boolean) say(int) wipe() fault(int) "
        + "order() judge(int) behind(int,int) hatched(int) stops(int) done() state(int,int) clue(int,int,int) "
        + "seen(int,int) forget(int) fits(int) places(int) firsts() certain(int,int) ask(int) mend(int) "
        + "soonest(int) rests(int,int) shapley(int,int) hope(int,int,int) year(int,int,int) image(int) "
        + "restore(int) told(int)";

    /** 1 what stands ahead of it, 2 its name, 3 its body. */
    private static final Pattern METHOD = Pattern.compile(
        "(?m)^( +)(?:public|private)[^;=\n]*?(\\w+)\\([^;=\n]*\\) \\{\n(?s:(.*?))\n\\1\\}$");

    private static int wrong = 0;

    public static void main(String[] args) throws IOException {
        String text = Files.readString(Path.of("src/main/java/EggOrder.java"));
        String code = text.replaceAll("(?s)/\\*.*?\\*/", "").replaceAll("//[^\n]*", "");
        words(code);
        face();
        classes();
        lengths(text);
        rows(code);
        depths(code);
        System.out.println(wrong == 0 ? "the rules hold" : wrong + " rules are broken");
        if (wrong != 0) System.exit(1);
    }

    private static void hold(boolean holds, String rule) {
        if (holds) return;
        wrong++;
        System.out.println(rule);
    }

    private static void words(String code) {
        for (String word : FORBIDDEN) {
            hold(!Pattern.compile("\\b" + word + "\\b").matcher(code).find(), "rules 4, 6: the word " + word);
        }
        hold(!code.contains("->") && !code.contains("::"), "rule 2: a lambda or a method reference");
        hold(!Pattern.compile("static\\s*\\{").matcher(code).find(), "rule 5: a static block");
        for (int i = 0; i < code.length(); i++) hold(code.charAt(i) < 128, "rule 4: a sign above 127");
    }

    private static void face() {
        Set<String> want = new TreeSet<>(Arrays.asList(CALLS.split(" ")));
        Set<String> got = new TreeSet<>();
        Set<String> names = new TreeSet<>();
        for (Method m : EggOrder.class.getDeclaredMethods()) {
            if (Modifier.isPrivate(m.getModifiers())) continue;
            got.add(m.toString().replaceAll(".*EggOrder\\.", ""));
            names.add(m.getName());
        }
        hold(got.equals(want), "rule 1: the face is " + got);
        for (Field f : EggOrder.class.getDeclaredFields()) {
            boolean isConstant = Modifier.isPublic(f.getModifiers()) && Modifier.isStatic(f.getModifiers());
            hold(isConstant || Modifier.isPrivate(f.getModifiers()), "rule 1: the field " + f.getName());
        }
        for (Class<?> c : allClasses()) {
            for (Method m : c.getDeclaredMethods()) {
                boolean isPrivate = Modifier.isPrivate(m.getModifiers());
                hold(!isPrivate || !names.contains(m.getName()), "rule 1: a private " + m.getName());
                hold(m.getParameterCount() <= 7, "rule 11: parameters of " + m.getName());
            }
        }
        for (Constructor<?> c : EggOrder.class.getDeclaredConstructors()) {
            hold(c.getParameterCount() == 0 && Modifier.isPublic(c.getModifiers()), "rule 1: a constructor");
        }
    }

    private static Set<Class<?>> allClasses() {
        Set<Class<?>> all = new java.util.LinkedHashSet<>(Arrays.asList(EggOrder.class.getDeclaredClasses()));
        all.add(EggOrder.class);
        return all;
    }

    private static void classes() {
        hold(allClasses().size() <= 12, "rule 11: too many classes");
        for (Class<?> c : allClasses()) {
            int fields = 0;
            for (Field f : c.getDeclaredFields()) {
                if (!Modifier.isStatic(f.getModifiers())) fields++;
                else hold(Modifier.isFinal(f.getModifiers()), "rule 5: the field " + f.getName());
            }
            hold(fields <= 20, "rule 11: too many fields in " + c.getName());
            boolean isInside = c != EggOrder.class;
            hold(!isInside || Modifier.isStatic(c.getModifiers()), "rule 2: " + c.getName() + " is not static");
        }
    }

    private static void lengths(String text) {
        Matcher m = METHOD.matcher(text);
        int methods = 0;
        while (m.find()) {
            methods++;
            hold(m.group(3).lines().count() <= LONGEST_METHOD, "rule 11: a long method at " + m.start());
        }
        hold(methods > 80, "rule 11: only " + methods + " methods were found");
    }

    /** Rows are made with the objects alone, so that no run makes many; an index is looked at where it is used. */
    private static void rows(String code) {
        for (String line : code.split("\n")) {
            boolean isOfField = line.matches("\\s+private (static )?final .* = new .*");
            hold(!line.contains("new ") || isOfField, "rule 12: a call makes an object: " + line.strip());
            String text = line.replaceAll("new \\w+\\[", "");
            boolean isLookedAt = text.contains(".length");
            hold(!Pattern.compile("\\w\\[[^\\]]").matcher(text).find() || isLookedAt, "rule 7: an index: " + line.strip());
        }
    }

    /** Methods are told apart by their names alone: those of one name are taken together. */
    private static void depths(String code) {
        Map<String, String> bodies = new TreeMap<>();
        Matcher m = METHOD.matcher(code);
        while (m.find()) bodies.merge(m.group(2), m.group(3), String::concat);
        hold(bodies.size() > 80, "rule 11: only " + bodies.size() + " names of methods were found");
        Map<String, Set<String>> calls = new TreeMap<>();
        for (String name : bodies.keySet()) {
            Set<String> called = new TreeSet<>();
            Matcher call = Pattern.compile("\\b(\\w+)\\(").matcher(bodies.get(name));
            while (call.find()) if (bodies.containsKey(call.group(1))) called.add(call.group(1));
            calls.put(name, called);
        }
        for (String name : calls.keySet()) {
            int depth = depth(name, calls, new TreeSet<>());
            hold(depth <= DEEPEST_CALL, "rule 11: " + name + " goes " + depth + " deep");
        }
    }

    /** A method that is open already is a recursion: it does not count again. */
    private static int depth(String name, Map<String, Set<String>> calls, Set<String> open) {
        if (!open.add(name)) return 0;
        int deepest = 0;
        for (String called : calls.get(name)) deepest = Math.max(deepest, depth(called, calls, open));
        open.remove(name);
        return deepest + 1;
    }
}
