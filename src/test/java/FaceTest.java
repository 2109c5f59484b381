import java.lang.reflect.Constructor;
import java.lang.reflect.Field;
import java.lang.reflect.Method;
import java.lang.reflect.Modifier;
import java.nio.file.Files;
import java.nio.file.Path;
import java.util.ArrayList;
import java.util.Arrays;
import java.util.List;
import java.util.TreeSet;
import java.util.regex.Matcher;
import java.util.regex.Pattern;

/** Compares the public face of Ticksilo with that of the document, whose path is the argument. */
public final class FaceTest {
    private static int wrong = 0;

    private static void fault(String text) {
        wrong++;
        System.out.println("FaceTest: " + text);
    }

    private static String faceOf(Path document) throws Exception {
        String text = Files.readString(document);
        int begin = text.indexOf("```java");
        return text.substring(begin, text.indexOf("```", begin + 7));
    }

    private static TreeSet<String> methodsTold(String face) {
        TreeSet<String> all = new TreeSet<>();
        Matcher m = Pattern.compile("public (int|long|boolean) (\\w+)\\(([^)]*)\\)(?: throws ([^;]*))?;").matcher(face);
        while (m.find()) {
            List<String> kinds = new ArrayList<>();
            for (String p : m.group(3).split(", ")) {
                if (!p.isEmpty()) kinds.add(p.split(" ")[0]);
            }
            String thrown = m.group(4) == null ? "" : m.group(4);
            all.add(m.group(1) + " " + m.group(2) + kinds + " " + new TreeSet<>(Arrays.asList(thrown.split(", "))));
        }
        return all;
    }

    private static TreeSet<String> methodsThere() {
        TreeSet<String> all = new TreeSet<>();
        TreeSet<String> open = new TreeSet<>();
        for (Method m : Ticksilo.class.getDeclaredMethods()) {
            if (!Modifier.isPublic(m.getModifiers())) continue;
            open.add(m.getName());
            List<String> kinds = new ArrayList<>();
            for (Class<?> c : m.getParameterTypes()) kinds.add(c.getName());
            TreeSet<String> thrown = new TreeSet<>();
            for (Class<?> c : m.getExceptionTypes()) thrown.add(c.getSimpleName());
            if (thrown.isEmpty()) thrown.add("");
            all.add(m.getReturnType() + " " + m.getName() + kinds + " " + thrown);
        }
        for (Method m : Ticksilo.class.getDeclaredMethods()) {
            if (Modifier.isPublic(m.getModifiers()) || m.isSynthetic()) continue;
            if (!Modifier.isPrivate(m.getModifiers())) fault(m + " is not private");
            if (open.contains(m.getName())) fault(m + " bears the name of a public one");
        }
        return all;
    }

    private static void checkConstants(String face) throws Exception {
        TreeSet<String> told = new TreeSet<>();
        Matcher row = Pattern.compile("public static final int ([^;]*);").matcher(face);
        while (row.find()) {
            for (String one : row.group(1).split(", ")) {
                String[] parts = one.split(" = ");
                told.add(parts[0]);
                int value = parts[1].equals("Integer.MIN_VALUE") ? Integer.MIN_VALUE : Integer.parseInt(parts[1]);
                Field field = Ticksilo.class.getField(parts[0]);
                if (field.getType() != int.class || field.getInt(null) != value) fault("constant " + one);
            }
        }
        for (Field f : Ticksilo.class.getDeclaredFields()) {
            boolean open = Modifier.isPublic(f.getModifiers());
            if (open != told.contains(f.getName())) fault("field " + f);
            if (!open && !Modifier.isPrivate(f.getModifiers())) fault(f + " is not private");
        }
    }

    public static void main(String[] args) throws Exception {
        String face = faceOf(Path.of(args[0]));
        TreeSet<String> told = methodsTold(face);
        TreeSet<String> there = methodsThere();
        if (told.size() != 30) fault("the document tells 30 methods, read were " + told.size());
        if (!told.equals(there)) fault("told " + told + ", there are " + there);
        checkConstants(face);
        Constructor<?>[] made = Ticksilo.class.getDeclaredConstructors();
        if (made.length != 1 || !Modifier.isPublic(made[0].getModifiers()) || made[0].getParameterCount() != 0) {
            fault("constructors " + Arrays.toString(made));
        }
        int kind = Ticksilo.class.getModifiers();
        if (!Modifier.isFinal(kind) || !Modifier.isPublic(kind)) fault("the class is not public and final");
        for (Class<?> c : Ticksilo.class.getDeclaredClasses()) {
            if (!Modifier.isStatic(c.getModifiers()) || Modifier.isPublic(c.getModifiers())) fault("" + c);
        }
        System.out.println(wrong == 0 ? "FaceTest: the face is as due" : "FaceTest: " + wrong + " faults");
        if (wrong != 0) System.exit(1);
    }
}
