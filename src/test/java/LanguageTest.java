import java.io.IOException;
import java.lang.reflect.Field;
import java.lang.reflect.Method;
import java.lang.reflect.Modifier;
import java.nio.charset.StandardCharsets;
import java.nio.file.Files;
import java.nio.file.Path;
import java.util.ArrayDeque;
import java.util.Collections;
import java.util.HashSet;
import java.util.IdentityHashMap;
import java.util.List;
import java.util.Set;
import java.util.regex.Matcher;
import java.util.regex.Pattern;

/** The rules of LANGUAGE.md that can be seen in the text of the class, and how much room an object of it takes. */
public final class LanguageTest {
    private static final Path FILE = Path.of("src/main/java/JuniorPews.java");
    /** Words of rules 2, 6 and 10 that the class does without. */
    private static final List<String> NO_WORDS = List.of("synchronized", "assert", "try", "catch", "finally", "native",
        "volatile", "transient", "float", "double", "Object", "System.out", "equals", "hashCode", "toString", "Random",
        "Thread", "protected", "goto", "instanceof");
    private static final Set<String> LIBRARY = Set.of("Arrays.fill", "System.arraycopy", "Math.min", "Math.max", "Math.abs",
        "Integer.bitCount", "Integer.numberOfTrailingZeros");
    private static final Due due = new Due();

    public static void main(String[] args) throws IOException, IllegalAccessException {
        String source = Files.readString(FILE, StandardCharsets.ISO_8859_1);
        String code = withoutTexts(source);
        words(code);
        library(code);
        exceptions(source);
        methods(source);
        divisors(code);
        members();
        room();
        due.end("LanguageTest");
    }

    /** Comments and what stands in quotes count for nothing. */
    private static String withoutTexts(String source) {
        return source.replaceAll("(?s)/\\*.*?\\*/", "").replaceAll("//[^\n]*", "")
            .replaceAll("\"[^\"\n]*\"", "\"\"").replaceAll("'[^'\n]'", "' '");
    }

    private static void words(String code) {
        for (String word : NO_WORDS) {
            due.is("rules 2 to 6: " + word, Pattern.compile("\\b" + Pattern.quote(word) + "\\b").matcher(code).find(), false);
        }
        for (String sign : List.of("->", "::", "static {", "@", "\"\"\"", "\"\" +", "+ \"\"")) {
            due.is("rules 2, 5, 10: " + sign, code.contains(sign), false);
        }
        for (int i = 0; i < code.length(); i++) {
            char sign = code.charAt(i);
            if (sign != '\n' && (sign < ' ' || sign > 126)) {
                due.tellWrong("rule 3: a sign of number " + (int) sign);
            }
        }
        due.is("no package", code.contains("package "), false);
    }

    private static void library(String code) {
        Matcher imports = Pattern.compile("(?m)^import (.*);$").matcher(code);
        while (imports.find()) {
            due.is("rule 4: import " + imports.group(1),
                Set.of("java.util.Arrays", "java.util.NoSuchElementException").contains(imports.group(1)), true);
        }
        due.is("rule 4: no library by its long name", code.replaceAll("(?m)^import .*$", "").contains("java."), false);
        Matcher calls = Pattern.compile("\\b([A-Z]\\w*[a-z]\\w*)\\.(\\w+)\\(").matcher(code);
        while (calls.find()) {
            String call = calls.group(1) + "." + calls.group(2);
            due.is("rule 4: " + call, LIBRARY.contains(call), true);
        }
        Matcher made = Pattern.compile("\\bnew (\\w+)").matcher(code);
        Set<String> own = new HashSet<>(Set.of("int", "IllegalArgumentException", "NoSuchElementException"));
        for (Class<?> one : JuniorPews.class.getDeclaredClasses()) {
            own.add(one.getSimpleName());
        }
        while (made.find()) {
            due.is("rule 4: new " + made.group(1), own.contains(made.group(1)), true);
        }
    }

    /** Rule 6: an exception is thrown with a written text, and never by a constructor. */
    private static void exceptions(String source) {
        Pattern fine = Pattern.compile("throw new (IllegalArgumentException|NoSuchElementException)\\(\"[a-z ]+\"\\);");
        for (String line : source.split("\n")) {
            if (line.matches(".*\\bthrow\\b.*") && !line.matches("\\s*(/?\\*|//).*")) {
                due.is("rule 6: " + line.strip(), fine.matcher(line).find(), true);
            }
        }
    }

    /** Rule 11: what stands between a method's head and the closing brace that is as deep as it. */
    private static void methods(String source) {
        String[] lines = source.split("\n");
        Pattern head = Pattern.compile("^( {4}| {8})(?!return|throw|if|else|for|while|switch)[A-Za-z].*\\).*\\{$");
        int found = 0;
        for (int i = 0; i < lines.length; i++) {
            Matcher matcher = head.matcher(lines[i]);
            if (matcher.find() && !lines[i].contains(" class ")) {
                found++;
                int end = i;
                while (end < lines.length && !lines[end].equals(matcher.group(1) + "}")) {
                    end++;
                }
                due.is("rule 11: " + lines[i].strip() + " has " + (end - i + 1) + " lines", end - i + 1 <= 60, true);
            }
        }
        due.is("methods were found", found > 100, true);
    }

    /** Rule 7: what divides is a constant, or was looked at in the same line. */
    private static void divisors(String code) {
        for (String line : code.split("\n")) {
            Matcher divisor = Pattern.compile("[/%] *=? *(\\w+)").matcher(line);
            while (divisor.find()) {
                String by = divisor.group(1);
                boolean fine = by.matches("[1-9][0-9]*|MOST|TAPE|MOST_ACTS") || line.contains(by + " == 0 ?") || line.contains(by + " > 0 ?");
                due.is("rule 7: " + line.strip(), fine, true);
            }
        }
    }

    /** Rules 1, 5 and 11 of the class and of those inside it. */
    private static void members() {
        Set<String> face = new HashSet<>();
        for (Method method : JuniorPews.class.getMethods()) {
            if (method.getDeclaringClass() == JuniorPews.class) {
                face.add(method.getName());
            }
        }
        Set<Class<?>> all = new HashSet<>(List.of(JuniorPews.class.getDeclaredClasses()));
        all.add(JuniorPews.class);
        for (Class<?> one : all) {
            for (Method method : one.getDeclaredMethods()) {
                due.is("rule 11: " + method + " takes at most seven", method.getParameterCount() <= 7, true);
                due.is("rule 1: " + method + " bears no name of the face",
                    one == JuniorPews.class && Modifier.isPublic(method.getModifiers()) || !face.contains(method.getName()), true);
            }
            int own = 0;
            for (Field field : one.getDeclaredFields()) {
                boolean isStatic = Modifier.isStatic(field.getModifiers());
                own += isStatic ? 0 : 1;
                if (isStatic) {
                    Class<?> type = field.getType();
                    due.is("rule 5: " + field, Modifier.isFinal(field.getModifiers())
                        && (type == int.class || type == String.class), true);
                }
            }
            due.is("rule 11: " + one + " has some twenty fields", own <= 20, true);
        }
    }

    /** Rule 12, and the one room of all calls: what an object holds, and that no call adds to it. */
    private static void room() throws IllegalAccessException {
        JuniorPews x = new JuniorPews();
        int[] before = sizeOf(x);
        Tape.tell(x, "person 9;person 5;person 7;arrives (1+age)*2;sulks away and moved;minds theirs<age;");
        for (int i = 0; i < 50; i++) {
            x.sundays(1);
            x.see(0, i % 20, 0);
            x.look(0);
            x.asNow();
            x.toLie(1, 20, 0);
            x.image();
            x.restore();
        }
        int[] after = sizeOf(x);
        due.is("objects and arrays", after[0], before[0]);
        due.is("fields and elements", after[1], before[1]);
        due.is("at most 100 objects and arrays, has " + after[0], after[0] <= 100, true);
        due.is("at most 20,000 fields and elements, has " + after[1], after[1] <= 20_000, true);
    }

    /** How many objects and arrays can be reached, and how many fields and elements they have. */
    private static int[] sizeOf(Object root) throws IllegalAccessException {
        Set<Object> known = Collections.newSetFromMap(new IdentityHashMap<>());
        ArrayDeque<Object> left = new ArrayDeque<>(List.of(root));
        known.add(root);
        int elements = 0;
        while (!left.isEmpty()) {
            Object one = left.poll();
            if (one instanceof int[] row) {
                elements += row.length;
                continue;
            }
            for (Field field : one.getClass().getDeclaredFields()) {
                if (!Modifier.isStatic(field.getModifiers())) {
                    elements++;
                    field.setAccessible(true);
                    Object next = field.getType().isPrimitive() ? null : field.get(one);
                    if (next != null && known.add(next)) {
                        left.add(next);
                    }
                }
            }
        }
        return new int[] {known.size(), elements};
    }
}
