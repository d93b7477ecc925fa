import java.io.IOException;
import java.lang.reflect.Array;
import java.lang.reflect.Constructor;
import java.lang.reflect.Field;
import java.lang.reflect.Method;
import java.lang.reflect.Modifier;
import java.nio.file.Files;
import java.nio.file.Path;
import java.util.Collections;
import java.util.HashMap;
import java.util.HashSet;
import java.util.IdentityHashMap;
import java.util.LinkedHashSet;
import java.util.Map;
import java.util.Set;
import java.util.TreeSet;
import java.util.regex.Matcher;
import java.util.regex.Pattern;

/** What of ../shared/LANGUAGE.md and of the face can be looked at by a program. */
public final class LanguageTest {
    private static final String FACE = "alone(int,int)int book(int,int,int)int burnt(int,int,int,int)int"
        + " cash(int,int,int)boolean chain(int,int)int cheque(int,int)int cries(int,int)int day()int"
        + " end(int)boolean ending(int,int)int entry(int,int)int fault(int)int feed(int,int,int,int,int)int"
        + " flight(int,int,int)int growth(int,int,int)int honest(int)int image(boolean)boolean"
        + " kept(int,int,int)int kiters(int)boolean leastHold(int,int,int)int letIn(int,int,int,int)int"
        + " like(int,int,int)int look(int)int pay(int,int,int,int,int)int payFloat(int,int)int"
        + " payment(int,int)int rail(int,int,int)boolean really(int,int)int ring(int,int,int,int)int"
        + " room(int,int)int seen(int)int sign(int,int,int)int snowed()int sums(int)int text(int)int"
        + " told(int,int,boolean)boolean town(int,int)boolean";
    private static int wrong;

    private static void wrong(String what) {
        wrong++;
        System.out.println(what);
    }

    private static void face() {
        Set<String> face = new TreeSet<>();
        Set<String> names = new HashSet<>();
        for (Method m : NowhereMoney.class.getDeclaredMethods()) {
            if (Modifier.isPrivate(m.getModifiers()) || m.isSynthetic()) {
                continue;
            }
            StringBuilder b = new StringBuilder(m.getName()).append("(");
            for (Class<?> type : m.getParameterTypes()) {
                b.append(b.charAt(b.length() - 1) == '(' ? "" : ",").append(type.getSimpleName());
            }
            face.add(b.append(")").append(m.getReturnType().getSimpleName()).toString());
            names.add(m.getName());
            if (!Modifier.isPublic(m.getModifiers()) || Modifier.isStatic(m.getModifiers())) {
                wrong("not of the face: " + m);
            }
        }
        if (!String.join(" ", face).equals(FACE)) {
            wrong("the face is " + face);
        }
        for (Field f : NowhereMoney.class.getDeclaredFields()) {
            if (!Modifier.isPrivate(f.getModifiers()) && !f.getName().equals("NONE")) {
                wrong("not of the face: " + f);
            }
        }
        for (Constructor<?> c : NowhereMoney.class.getDeclaredConstructors()) {
            if (c.getParameterCount() > 0) {
                wrong("not of the face: " + c);
            }
        }
        members(NowhereMoney.class, names);
        Class<?>[] inside = NowhereMoney.class.getDeclaredClasses();
        if (inside.length > 11) {
            wrong("too many classes");
        }
        for (Class<?> c : inside) {
            if (!Modifier.isStatic(c.getModifiers()) || Modifier.isPublic(c.getModifiers())) {
                wrong("no private static class: " + c);
            }
            members(c, names);
        }
    }

    private static void members(Class<?> c, Set<String> names) {
        int fields = 0;
        for (Field f : c.getDeclaredFields()) {
            fields += Modifier.isStatic(f.getModifiers()) ? 0 : 1;
            if (Modifier.isStatic(f.getModifiers()) && !Modifier.isFinal(f.getModifiers())) {
                wrong("a static field that is not final: " + f);
            }
        }
        if (fields > 20) {
            wrong(fields + " fields in " + c);
        }
        for (Method m : c.getDeclaredMethods()) {
            if (m.getParameterCount() > 7) {
                wrong("too many parameters: " + m);
            }
            boolean isFace = c == NowhereMoney.class && Modifier.isPublic(m.getModifiers());
            if (!isFace && names.contains(m.getName())) {
                wrong("it bears the name of a public one: " + m);
            }
        }
    }

    /** The source without its comments and with its texts empty. */
    private static String bare(String source) {
        String s = Pattern.compile("/\\*.*?\\*/", Pattern.DOTALL).matcher(source).replaceAll("");
        s = s.replaceAll("//[^\n]*", "");
        return s.replaceAll("\"(\\\\.|[^\"\\\\])*\"", "\"\"");
    }

    private static void source() throws IOException {
        String source = Files.readString(Path.of("src/main/java/NowhereMoney.java"));
        for (int i = 0; i < source.length(); i++) {
            if (source.charAt(i) > 126) {
                wrong("a sign above 126 at " + i);
            }
        }
        String s = bare(source);
        String[] never = {"\\bthrows?\\b", "\\btry\\b", "\\bcatch\\b", "\\bfinally\\b", "\\bsynchronized\\b",
            "\\bassert\\b", "\\bimport\\b", "\\bpackage\\b", "->", "::", "\\bprotected\\b", "Exact\\b",
            "\\binstanceof\\b", "\\bvar\\b", "\\+ \"", "\" \\+", "\\bequals\\b", "\\bhashCode\\b",
            "\\btoString\\b", "\\bObject\\b", "\\benum\\b", "\\bString\\.", "\\bSystem\\.(?!arraycopy)",
            "@\\w+", "\\bString\\[", "\\[\\]\\["};
        for (String word : never) {
            Matcher m = Pattern.compile(word).matcher(s);
            if (m.find()) {
                wrong("in the program stands " + m.group());
            }
        }
        making(s.split("\n"));
        depth(s.split("\n"));
        int start = -1;
        String[] lines = source.split("\n");
        for (int i = 0; i < lines.length; i++) {
            if (lines[i].length() > 110) {
                wrong("a long line: " + (i + 1));
            }
            if (lines[i].matches("( {4}| {8})(public|private|static|[a-zA-Z\\[\\]]+) .*\\) \\{")) {
                start = i;
            }
            if (start >= 0 && lines[i].matches("( {4}| {8})\\}") && i - start > 60) {
                wrong("a long method at line " + (start + 1));
            }
        }
    }

    /** Rows are made with an object alone: no call makes anything, so a run takes what one object takes. */
    private static void making(String[] lines) {
        boolean inConstructor = false;
        for (String line : lines) {
            if (line.matches("( {4}| {8})(?! ).*\\) \\{")) {
                inConstructor = line.matches(" +(public )?[A-Z]\\w*\\(.*\\) \\{");
            }
            boolean isField = line.matches(" {8}final [\\w\\[\\]]+ \\w+ = new .*;");
            if (line.contains("new ") && !isField && !inConstructor) {
                wrong("something is made by a call: " + line.trim());
            }
        }
    }

    /** The methods by name, and the names that each calls; a name that two classes have counts as one. */
    private static Map<String, Set<String>> calls(String[] lines) {
        Map<String, Set<String>> calls = new HashMap<>();
        Set<String> current = new TreeSet<>();
        String type = "(?:[\\w\\[\\]]+ )*";
        Pattern head = Pattern.compile("( {4}| {8})(?! |if|for|while|switch|return)" + type + "(\\w+)\\(.*\\) \\{");
        Pattern call = Pattern.compile("\\b(\\w+)\\(");
        for (String line : lines) {
            Matcher m = head.matcher(line);
            if (m.matches()) {
                current = calls.computeIfAbsent(m.group(2), name -> new TreeSet<>());
                continue;
            }
            for (Matcher c = call.matcher(line); c.find();) {
                current.add(c.group(1));
            }
        }
        calls.values().forEach(names -> names.retainAll(calls.keySet()));
        return calls;
    }

    private static void goDeeper(Map<String, Set<String>> calls, String name, Set<String> open) {
        open.add(name);
        if (open.size() > 8) {
            wrong("calls go too deep: " + open);
        } else {
            for (String next : calls.get(name)) {
                if (!open.contains(next)) {
                    goDeeper(calls, next, open);
                }
            }
        }
        open.remove(name);
    }

    private static void depth(String[] lines) {
        Map<String, Set<String>> calls = calls(lines);
        if (calls.size() < 100) {
            wrong("only " + calls.size() + " methods were found");
        }
        for (String name : calls.keySet()) {
            goDeeper(calls, name, new LinkedHashSet<>());
        }
    }

    /** All that hangs on an object, counted as the room counts it: far less than it holds. */
    private static long weight(Object thing, Set<Object> met) throws IllegalAccessException {
        if (thing == null || !met.add(thing)) {
            return 0;
        }
        long sum = 1;
        if (thing.getClass().isArray()) {
            int length = Array.getLength(thing);
            for (int i = 0; i < length && thing instanceof Object[]; i++) {
                sum += weight(Array.get(thing, i), met);
            }
            return sum + length;
        }
        for (Field f : thing.getClass().getDeclaredFields()) {
            if (!Modifier.isStatic(f.getModifiers())) {
                f.setAccessible(true);
                sum += 1 + (f.getType().isPrimitive() ? 0 : weight(f.get(thing), met));
            }
        }
        return sum;
    }

    private static void room() throws IllegalAccessException {
        Set<Object> met = Collections.newSetFromMap(new IdentityHashMap<>());
        long weight = weight(new NowhereMoney(), met);
        if (weight < 20000 || weight > 100000 || met.size() > 1000) {
            wrong("an object takes " + weight + " fields and elements in " + met.size() + " objects");
        }
    }

    public static void main(String[] args) throws IOException, IllegalAccessException {
        face();
        source();
        room();
        System.out.println(wrong == 0 ? "the program keeps to its language" : wrong + " faults");
        if (wrong != 0) {
            System.exit(1);
        }
    }
}
