import java.io.IOException;
import java.lang.management.ManagementFactory;
import java.lang.reflect.Constructor;
import java.lang.reflect.Field;
import java.lang.reflect.Method;
import java.lang.reflect.Modifier;
import java.nio.file.Files;
import java.nio.file.Path;
import java.util.ArrayList;
import java.util.Arrays;
import java.util.List;
import java.util.TreeSet;
import java.util.regex.Matcher;
import java.util.regex.Pattern;

/** What of LANGUAGE.md can be seen without much reading: words that may not stand there, the face, lengths, objects made. */
public final class LanguageTest {
    private static final String SOURCE = "src/main/java/FourPalms.java";
    private static final String[] FORBIDDEN = {"throw", "throws", "try", "catch", "finally", "synchronized", "assert",
        "record", "yield", "var", "volatile", "native", "transient", "protected", "instanceof", "Object", "System.out",
        "Math.random", "nanoTime", "currentTimeMillis", "hashCode", "equals", "toString", "HashMap", "Exact"};
    private static final String FACE = "state crossing road land fight cart of feed end rule fault waits now circle meant "
        + "cleared judge comer ever lay odds mutual used holds starve shortest sound signs border run days count link ring "
        + "image look";
    private static final Pattern METHOD =
        Pattern.compile("^ {4,8}(?:(?:public|private|static|final) )*[\\w\\[\\]]+ (\\w+)\\(([^)]*)\\) \\{$");

    private static int wrong = 0;

    private static void wrong(String what) {
        wrong++;
        System.out.println(what);
    }

    public static void main(String[] args) throws IOException {
        words(Files.readString(Path.of(SOURCE)));
        methods(Files.readAllLines(Path.of(SOURCE)));
        face();
        objects();
        System.out.println(wrong == 0 ? "nothing against the language" : wrong + " against the language");
        if (wrong != 0) {
            System.exit(1);
        }
    }

    private static void words(String source) {
        String code = source.replaceAll("(?s)/\\*.*?\\*/", "").replaceAll("//[^\n]*", "").replaceAll("\"[^\"\n]*\"", "\"\"");
        for (String word : FORBIDDEN) {
            if (Pattern.compile("\\b" + Pattern.quote(word) + "\\b").matcher(code).find()) {
                wrong("the word " + word);
            }
        }
        if (code.contains("->") || code.contains("::") || code.contains("@") || code.contains("package ")) {
            wrong("a lambda, a reference to a method, an annotation or a package");
        }
        Matcher imports = Pattern.compile("import ([\\w.]+);").matcher(code);
        while (imports.find()) {
            if (!imports.group(1).equals("java.util.Arrays")) {
                wrong("import of " + imports.group(1));
            }
        }
        for (char sign : source.toCharArray()) {
            if (sign != '\n' && (sign < 32 || sign > 126)) {
                wrong("a sign beyond ASCII");
                break;
            }
        }
    }

    private static void methods(List<String> lines) {
        TreeSet<String> publicOnes = new TreeSet<>(Arrays.asList(FACE.split(" ")));
        for (int i = 0; i < lines.size(); i++) {
            Matcher head = METHOD.matcher(lines.get(i));
            if (!head.matches()) {
                continue;
            }
            String name = head.group(1);
            if (!lines.get(i).contains("public ") && publicOnes.contains(name)) {
                wrong(name + " bears the name of a public one");
            }
            if (head.group(2).split(",").length > 7) {
                wrong(name + " takes too much");
            }
            String indent = lines.get(i).substring(0, lines.get(i).length() - lines.get(i).stripLeading().length());
            int end = i;
            while (!lines.get(end).equals(indent + "}")) {
                end++;
            }
            if (end - i > 60) {
                wrong(name + " is long");
            }
        }
    }

    private static void face() {
        List<String> names = new ArrayList<>();
        for (Method m : FourPalms.class.getDeclaredMethods()) {
            if (Modifier.isPublic(m.getModifiers())) {
                names.add(m.getName());
            } else if (!Modifier.isPrivate(m.getModifiers())) {
                wrong("neither public nor private: " + m);
            }
        }
        names.sort(null);
        List<String> due = new ArrayList<>(Arrays.asList(FACE.split(" ")));
        due.sort(null);
        if (!names.equals(due)) {
            wrong("the face is " + names);
        }
        for (Field f : FourPalms.class.getDeclaredFields()) {
            boolean constant = f.getName().equals("NONE");
            if (Modifier.isPublic(f.getModifiers()) != constant || !constant && !Modifier.isPrivate(f.getModifiers())) {
                wrong("the field " + f);
            }
            if (Modifier.isStatic(f.getModifiers()) && !Modifier.isFinal(f.getModifiers())) {
                wrong("changes for all: " + f);
            }
        }
        for (Constructor<?> c : FourPalms.class.getDeclaredConstructors()) {
            if (!Modifier.isPublic(c.getModifiers()) || c.getParameterCount() != 0) {
                wrong("the constructor " + c);
            }
        }
        Class<?>[] inside = FourPalms.class.getDeclaredClasses();
        if (inside.length > 11) {
            wrong("too many classes");
        }
        for (Class<?> c : inside) {
            int fields = 0;
            for (Field f : c.getDeclaredFields()) {
                fields += Modifier.isStatic(f.getModifiers()) ? 0 : 1;
            }
            if (!Modifier.isStatic(c.getModifiers()) || !Modifier.isPrivate(c.getModifiers()) || fields > 20) {
                wrong("the class " + c + " with " + fields + " fields");
            }
        }
    }

    /** A call makes no objects: all that is needed is made with the object. */
    private static void objects() {
        com.sun.management.ThreadMXBean bean = (com.sun.management.ThreadMXBean) ManagementFactory.getThreadMXBean();
        long id = Thread.currentThread().getId();
        calls(new FourPalms());
        FourPalms x = new FourPalms();
        long before = bean.getThreadAllocatedBytes(id);
        calls(x);
        long made = bean.getThreadAllocatedBytes(id) - before;
        if (made > 2000) {
            wrong("calls made " + made + " bytes");
        }
    }

    private static int calls(FourPalms x) {
        int sum = 0;
        for (int c = 0; c < 6; c++) {
            x.crossing(c, 3 + c % 4);
            for (int r = 0; r < 3 + c % 4; r++) {
                x.comer(c, r, (r + 1) % 3 == r ? 2 : (r + 1) % 3, 1, 1);
                x.road(c, r, 4, 70);
                x.link(c, r, (c + 1) % 6, r % 3, r);
            }
        }
        x.feed('w' << 24 | 'a' << 16 | 'i' << 8 | 't', ';' << 24, 0, 0, 0);
        x.end(5);
        sum += x.rule(0) + x.holds(0) + x.shortest(63, 0) + x.shortest(63, 2) + x.sound(63, 20) + x.ring(0);
        for (int c = 0; c < 6; c++) {
            sum += x.ever(c, 1) + x.odds(c, 0) + x.mutual(c) + x.used(0, c) + x.starve(c) + x.signs(c) + x.border(c, 0);
            sum += x.run(c, 60) + x.now(c, 0) + x.circle(c, 0) + x.meant(c, 1) + x.cleared(c, 0) + x.judge(c, 1);
            x.lay(c, 0);
        }
        x.image(true);
        x.image(false);
        return sum + x.look(0) + x.look(1);
    }
}
