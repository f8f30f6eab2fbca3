import java.io.IOException;
import java.lang.reflect.Constructor;
import java.lang.reflect.Field;
import java.lang.reflect.InvocationTargetException;
import java.lang.reflect.Method;
import java.lang.reflect.Modifier;
import java.nio.file.Files;
import java.nio.file.Path;
import java.util.ArrayList;
import java.util.Arrays;
import java.util.List;
import java.util.NoSuchElementException;
import java.util.Random;
import java.util.Set;
import java.util.TreeSet;
import java.util.regex.Matcher;
import java.util.regex.Pattern;

/**
 * The document's face and no other, what LANGUAGE.md rules out and can be seen from outside, and calls with wild
 * arguments, none of which may throw but where the document says so.
 */
public final class Face {
    private static final String[] METHODS = {"int sign(int)", "boolean end(int)", "int told()", "int saying(int,int)",
        "boolean mark(int,int,boolean)", "boolean lives(int,boolean)", "int want(int)", "int forget()", "int sheet(int,int,int,int)",
        "int holds()", "int follows(int)", "int decided(int)", "int from(int,int)", "int needs(int)", "int fewest()", "int idle()",
        "int alike(int,int)", "int clash()", "int liars()", "int truth(int)", "int trusts(int,int)", "int convicts(int)",
        "int all(int)", "int empty()", "int chain(int,int)", "int sorts()", "int sort(int)", "int both(int,int)", "int town()",
        "int refute(int)", "int judge(int,int,int)", "int mood(int,int,int,int)", "int figure(int)", "int forms(int,int)",
        "int allow(int)", "int step(int,int,int)", "int proof(int)", "int rests(int)", "int proved()", "int gap()", "int plead()",
        "int pleaded(int,int)", "int stands()", "int marks(int)", "int strike()", "boolean keep(int)", "boolean again(int)",
        "int count(int)", "int row(int)"};
    private static final Set<String> THROWING = Set.of("saying", "pleaded", "row");
    private static int wrong = 0;

    private static void check(String what, boolean is) {
        if (!is) {
            wrong++;
            System.out.println("not so: " + what);
        }
    }

    private static String signature(Method m) {
        StringBuilder text = new StringBuilder(m.getReturnType() + " " + m.getName() + "(");
        for (Class<?> type : m.getParameterTypes()) {
            text.append(text.charAt(text.length() - 1) == '(' ? "" : ",").append(type);
        }
        return text.append(')').toString();
    }

    private static void lookAtTheFace() {
        Class<SomeAreNoneIs> face = SomeAreNoneIs.class;
        check("public and final", Modifier.isPublic(face.getModifiers()) && Modifier.isFinal(face.getModifiers()));
        Constructor<?>[] made = face.getDeclaredConstructors();
        check("one public constructor without arguments", made.length == 1 && Modifier.isPublic(made[0].getModifiers())
            && made[0].getParameterCount() == 0);
        Set<String> found = new TreeSet<>();
        for (Method m : face.getDeclaredMethods()) {
            if (!Modifier.isPrivate(m.getModifiers())) {
                check(m + " is public and no static", Modifier.isPublic(m.getModifiers()) && !Modifier.isStatic(m.getModifiers()));
                found.add(signature(m));
                Class<?>[] thrown = m.getExceptionTypes();
                check(m + " tells what it throws", THROWING.contains(m.getName())
                    ? thrown.length == 1 && thrown[0] == NoSuchElementException.class : thrown.length == 0);
            }
        }
        check("the document's methods: " + found, found.equals(new TreeSet<>(Arrays.asList(METHODS))));
        for (Field f : face.getDeclaredFields()) {
            check(f + " is private, or NONE", Modifier.isPrivate(f.getModifiers()) || f.getName().equals("NONE"));
        }
        check("NONE is -1", SomeAreNoneIs.NONE == -1);
        Set<String> names = new TreeSet<>();
        for (String method : METHODS) {
            names.add(method.substring(method.indexOf(' ') + 1, method.indexOf('(')));
        }
        lookInside(face, names);
        check("at most twelve classes", face.getDeclaredClasses().length <= 11);
        for (Class<?> inside : face.getDeclaredClasses()) {
            check(inside + " is static", Modifier.isStatic(inside.getModifiers()));
            check(inside + " is not public", !Modifier.isPublic(inside.getModifiers()) && !Modifier.isProtected(inside.getModifiers()));
            lookInside(inside, names);
        }
    }

    private static void lookInside(Class<?> one, Set<String> names) {
        int fields = 0;
        for (Field f : one.getDeclaredFields()) {
            boolean isStatic = Modifier.isStatic(f.getModifiers());
            check(f + " is final, if static", !isStatic || Modifier.isFinal(f.getModifiers()));
            fields += isStatic ? 0 : 1;
        }
        check(one + " has at most twenty fields", fields <= 20);
        for (Method m : one.getDeclaredMethods()) {
            check(m + " has at most seven parameters", m.getParameterCount() <= 7);
            check(m + " bears no public name", Modifier.isPublic(m.getModifiers()) || !names.contains(m.getName()));
        }
    }

    private static void lookAtTheSource() throws IOException {
        String source = Files.readString(Path.of("src/main/java/SomeAreNoneIs.java"));
        String code = source.replaceAll("(?s)/\\*.*?\\*/", "").replaceAll("//[^\n]*", "");
        check("one import", code.split("import ", -1).length == 2 && code.contains("import java.util.NoSuchElementException;"));
        String[] ruledOut = {"package ", "->", "::", "try {", "catch (", "finally", "synchronized", "assert ", "System.", "Thread", "Object ",
            "instanceof", "Random", "static {", "yield", "var ", "@", "double", "float", "String", "List", "Exact("};
        for (String word : ruledOut) {
            String seen = word.equals("@") ? code.replace("'@'", "") : code;
            check("no " + word, !seen.contains(word));
        }
        String[] parts = code.split("throw new ", -1);
        for (int i = 1; i < parts.length; i++) {
            check("throws NoSuchElementException alone", parts[i].startsWith("NoSuchElementException();"));
        }
        lookAtLengths(source.split("\n"));
    }

    /** "Ahead of the calls .. the interface says: ---- ..": so it does, in the document's order, and of no other call. */
    private static void lookAtTheHeadings() throws IOException {
        List<String> wanted = new ArrayList<>();
        Matcher says = Pattern.compile("Ahead of the calls (.*) the interface says: (---- .*)\\.")
            .matcher(Files.readString(Path.of("../shared/DOC.md")));
        while (says.find()) {
            wanted.add(says.group(2));
            wanted.addAll(Arrays.asList(says.group(1).replace("`", "").split(", ")));
        }
        List<String> found = new ArrayList<>();
        Matcher stands = Pattern.compile("(?m)^    // (---- .*)$|^    public (?:int|boolean) (\\w+)\\(")
            .matcher(Files.readString(Path.of("src/main/java/SomeAreNoneIs.java")));
        while (stands.find()) {
            found.add(stands.group(1) != null ? stands.group(1) : stands.group(2));
        }
        check("the document has headings", wanted.size() > METHODS.length);
        check("what stands ahead of the calls: " + found + ", in the document: " + wanted, found.equals(wanted));
    }

    /** From a line that opens a method to the line that closes it, by their indents. */
    private static void lookAtLengths(String[] lines) {
        for (int i = 0; i < lines.length; i++) {
            check("line " + (i + 1) + " has at most 120 signs", lines[i].length() <= 120);
            String indent = lines[i].replaceAll("\\S.*", "");
            if (lines[i].endsWith("{") && lines[i].contains("(") && lines[i].matches("( {4}| {8})(public|private|static|int|boolean|void|long|[A-Z])[^;=]*")) {
                int end = i;
                while (end < lines.length && !lines[end].equals(indent + "}")) {
                    end++;
                }
                check("the method at line " + (i + 1) + " has at most sixty lines", end - i < 60);
            }
        }
    }

    private static int wild(Random random) {
        int[] edges = {Integer.MIN_VALUE, Integer.MIN_VALUE + 1, -4096, -25, -3, -2, -1, 0, 1, 2, 3, 4, 5, 6, 7, 8, 11, 12, 13, 15, 16,
            17, 22, 23, 24, 25, 31, 32, 33, 40, 63, 64, 76, 80, 81, 255, 256, 575, 576, 2303, 2304, 4095, 4096, 4097, 4194303, 4194304,
            65535, 65536, Integer.MAX_VALUE - 1, Integer.MAX_VALUE};
        int kind = random.nextInt(8);
        return kind == 0 ? random.nextInt() : kind < 3 ? random.nextInt(2310) - 3 : kind < 5 ? random.nextInt(26) - 1
            : edges[random.nextInt(edges.length)];
    }

    private static void write(SomeAreNoneIs x, String text) {
        x.end(0);
        for (int i = 0; i < text.length() && i < 80; i++) {
            x.sign(text.charAt(i) << 24);
            x.end(i + 1);
        }
    }

    private static String wildText(Random random) {
        String[] some = {"A", "E", "I", "O", "-", "a", "b", "c", "l", "m", "@", "0", "7", "8", "?", ";", ":", "+", "16", "39", "40", "99",
            "Aab@0", "Eab@1?", "I-ab@2;Oab@3", "0:0+1Aac", "1:16Iab", ";Abc@0", "Aab@0;Abc@1;Aca@2;Iab@3", "\u00ff", "\u0000"};
        StringBuilder text = new StringBuilder();
        int parts = random.nextInt(8);
        for (int i = 0; i < parts; i++) {
            text.append(some[random.nextInt(some.length)]);
        }
        return text.toString();
    }

    private static void callWildly() throws IllegalAccessException {
        Method[] methods = Arrays.stream(SomeAreNoneIs.class.getDeclaredMethods()).filter(m -> Modifier.isPublic(m.getModifiers()))
            .sorted((a, b) -> a.getName().compareTo(b.getName())).toArray(Method[]::new);
        Random random = new Random(4);
        for (int run = 0; run < 150; run++) {
            SomeAreNoneIs x = new SomeAreNoneIs();
            for (int call = 0; call < 512; call++) {
                if (random.nextInt(6) == 0) {
                    write(x, wildText(random));
                }
                Method m = methods[random.nextInt(methods.length)];
                Object[] arguments = new Object[m.getParameterCount()];
                for (int i = 0; i < arguments.length; i++) {
                    arguments[i] = m.getParameterTypes()[i] == boolean.class ? (Object) random.nextBoolean() : (Object) wild(random);
                }
                try {
                    m.invoke(x, arguments);
                } catch (InvocationTargetException e) {
                    check(m.getName() + Arrays.toString(arguments) + " threw " + e.getCause(),
                        e.getCause().getClass() == NoSuchElementException.class && THROWING.contains(m.getName()));
                }
            }
        }
    }

    public static void main(String[] args) throws IOException, IllegalAccessException {
        lookAtTheFace();
        lookAtTheSource();
        lookAtTheHeadings();
        callWildly();
        System.out.println(wrong == 0 ? "the face is the document's" : wrong + " faults of the face");
        if (wrong != 0) {
            System.exit(1);
        }
    }
}
