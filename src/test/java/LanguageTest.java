import java.lang.reflect.Array;
import java.lang.reflect.Constructor;
import java.lang.reflect.Field;
import java.lang.reflect.Method;
import java.lang.reflect.Modifier;
import java.nio.file.Files;
import java.nio.file.Path;
import java.util.Arrays;
import java.util.Collections;
import java.util.IdentityHashMap;
import java.util.List;
import java.util.Set;
import java.util.TreeSet;
import java.util.regex.Matcher;
import java.util.regex.Pattern;
import java.util.stream.Collectors;

/** What of LANGUAGE.md can be seen from the source and the classes; told: HiccupHill.java and DOC.md. */
public final class LanguageTest {
    private static int wrong;

    private static void need(boolean holds, String rule) {
        if (!holds) {
            wrong++;
            System.out.println("against the language: " + rule);
        }
    }

    private static void face(String doc) {
        Set<String> asked = new TreeSet<>();
        Matcher m = Pattern.compile("(?m)^ {4}public (int|long) (\\w+)\\(([^)]*)\\);$").matcher(doc);
        while (m.find()) {
            String types = Arrays.stream(m.group(3).split(",")).map(String::trim).filter(s -> !s.isEmpty())
                .map(s -> s.substring(0, s.indexOf(' '))).collect(Collectors.joining(","));
            asked.add(m.group(1) + " " + m.group(2) + "(" + types + ")");
        }
        need(asked.size() == 40, "the document's face was read: " + asked.size());
        Set<String> there = new TreeSet<>();
        Set<String> names = new TreeSet<>();
        for (Method f : HiccupHill.class.getDeclaredMethods()) {
            if (!Modifier.isPrivate(f.getModifiers())) {
                names.add(f.getName());
                there.add(f.getReturnType() + " " + f.getName() + "(" + Arrays.stream(f.getParameterTypes())
                    .map(Class::toString).collect(Collectors.joining(",")) + ")");
            }
        }
        need(there.equals(asked), "1: the face is the document's: " + there);
        for (Field f : HiccupHill.class.getDeclaredFields()) {
            need(Modifier.isPrivate(f.getModifiers()) || f.getName().equals("NONE"), "1: field " + f.getName());
        }
        Constructor<?>[] makers = HiccupHill.class.getDeclaredConstructors();
        need(makers.length == 1 && makers[0].getParameterCount() == 0, "1: the constructor");
        for (Class<?> c : HiccupHill.class.getDeclaredClasses()) {
            for (Method f : c.getDeclaredMethods()) {
                need(!names.contains(f.getName()), "1: " + c.getSimpleName() + "." + f.getName() + " is a public name");
            }
        }
        for (Method f : HiccupHill.class.getDeclaredMethods()) {
            need(!Modifier.isPrivate(f.getModifiers()) || !names.contains(f.getName()), "1: private " + f.getName());
        }
    }

    private static void shape(Class<?> c) {
        int fields = 0;
        for (Field f : c.getDeclaredFields()) {
            boolean constant = Modifier.isStatic(f.getModifiers());
            fields += constant ? 0 : 1;
            need(!constant || Modifier.isFinal(f.getModifiers()), "5: " + f.getName());
        }
        need(fields <= 20, "11: fields of " + c.getSimpleName() + ": " + fields);
        for (Method m : c.getDeclaredMethods()) {
            need(m.getParameterCount() <= 7, "11: parameters of " + m.getName());
        }
        need(c == HiccupHill.class || Modifier.isStatic(c.getModifiers()) && !Modifier.isPublic(c.getModifiers()),
            "2: " + c.getSimpleName());
    }

    private static void lengths(List<String> lines) {
        for (int i = 0; i < lines.size(); i++) {
            Matcher m = Pattern.compile("^( {4}| {8})[a-zA-Z][^=]*\\) \\{$").matcher(lines.get(i));
            if (m.matches()) {
                int end = i;
                while (!lines.get(end).equals(m.group(1) + "}")) {
                    end++;
                }
                need(end - i <= 60, "11: lines from " + (i + 1) + ": " + (end - i));
            }
        }
    }

    private static void words(String source) {
        for (int i = 0; i < source.length(); i++) {
            need(source.charAt(i) < 128, "4: a sign at " + i);
        }
        String code = source.replaceAll("(?s)/\\*.*?\\*/", " ").replaceAll("//[^\n]*", " ")
            .replaceAll("\"[^\"]*\"", "\"\"");
        String[] never = {"throw", "throws", "try", "catch", "finally", "synchronized", "assert", "volatile", "record",
            "hashCode", "toString", "Exact", "Thread", "System\\.(?!arraycopy)", "Random", "nanoTime", "float", "double",
            "static \\{", "->", "::", "\\w*Exception", "\\w*Error", "Object", "Throwable"};
        for (String w : never) {
            String bound = Character.isLetter(w.charAt(0)) || w.charAt(0) == '\\' ? "\\b" : "";
            need(!Pattern.compile(bound + w + (w.matches("[a-zA-Z]+") ? "\\b" : "")).matcher(code).find(), "word " + w);
        }
        Matcher m = Pattern.compile("(?m)^import (.*);$").matcher(code);
        while (m.find()) {
            need(m.group(1).equals("java.util.Arrays"), "4: import " + m.group(1));
        }
        need(!code.contains("package "), "no package");
    }

    /** All static calls are of the library's few that are used, which make nothing. */
    private static void library(String source) {
        Matcher m = Pattern.compile("\\b(?:String|StringBuilder|Integer|Long|Math|System|Arrays|List)\\.\\w+")
            .matcher(source);
        Set<String> few = Set.of("Arrays.fill", "Math.abs", "Math.max", "Math.min", "System.arraycopy");
        while (m.find()) {
            need(few.contains(m.group()), "4: " + m.group());
        }
    }

    /** What is made is made with the object: in its fields and constructors, so that no call makes anything. */
    private static void makings(List<String> lines) {
        boolean maker = false;
        for (String line : lines) {
            Matcher head = Pattern.compile("^(?: {4}| {8})(?:[\\w\\[\\]]+ )*(\\w+)\\([^=]*\\) \\{$").matcher(line);
            if (head.matches()) {
                maker = Character.isUpperCase(head.group(1).charAt(0));
            }
            boolean field = line.matches("^(?: {4}| {8})(?:private |final |private final )[\\w\\[\\]]+ \\w+ = new .*;$");
            boolean kept = line.matches("^ {12,16}\\w+\\[i\\] = new \\w+\\(\\);$") && maker;
            need(field || kept || !line.matches(".*\\bnew\\b.*") || line.strip().matches("(?://|\\*|/\\*).*"),
                "12: made in a call: " + line.strip());
        }
    }

    /** Fields and elements of an object and of all that it holds. */
    private static int places(Object of, Set<Object> seen) throws IllegalAccessException {
        if (of == null || of instanceof String || !seen.add(of)) {
            return 0;
        }
        int sum = 0;
        if (of.getClass().isArray()) {
            sum = Array.getLength(of);
            for (int i = 0; i < Array.getLength(of) && !of.getClass().getComponentType().isPrimitive(); i++) {
                sum += places(Array.get(of, i), seen);
            }
            return sum;
        }
        for (Field f : of.getClass().getDeclaredFields()) {
            if (!Modifier.isStatic(f.getModifiers())) {
                f.setAccessible(true);
                sum += 1 + (f.getType().isPrimitive() ? 0 : places(f.get(of), seen));
            }
        }
        return sum;
    }

    /** The room has 600,000 objects and 7.3 million places; a run that makes an object for each of 400 calls has it. */
    private static void room() throws IllegalAccessException {
        Set<Object> seen = Collections.newSetFromMap(new IdentityHashMap<>());
        int places = places(new HiccupHill(), seen);
        need(places <= 18000, "room: " + places + " places an object");
        need(seen.size() <= 1500, "room: " + seen.size() + " objects and arrays an object");
    }

    public static void main(String[] args) throws Exception {
        String source = Files.readString(Path.of(args[0]));
        face(Files.readString(Path.of(args[1])));
        shape(HiccupHill.class);
        for (Class<?> c : HiccupHill.class.getDeclaredClasses()) {
            shape(c);
        }
        need(HiccupHill.class.getDeclaredClasses().length <= 11, "11: classes");
        lengths(source.lines().toList());
        words(source);
        library(source);
        makings(source.lines().toList());
        room();
        System.out.println(wrong == 0 ? "the language is kept, as far as it is seen" : wrong + " against the language");
        if (wrong != 0) {
            System.exit(1);
        }
    }
}
