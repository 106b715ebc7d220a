import java.io.IOException;
import java.lang.reflect.Executable;
import java.lang.reflect.Field;
import java.lang.reflect.Method;
import java.lang.reflect.Modifier;
import java.nio.file.Files;
import java.nio.file.Path;
import java.util.ArrayList;
import java.util.List;
import java.util.Set;
import java.util.TreeSet;
import java.util.regex.Matcher;
import java.util.regex.Pattern;

/** The face of the document, and those rules of LANGUAGE.md that can be read off the class and its text. */
public final class LanguageTest {
    private static final Set<String> FACE = Set.of(
            "int feed(int,int,int,int,int)", "boolean end(int)", "int land()", "int fault(int)", "int has(int)",
            "int letter(int,int)", "boolean net(long)", "long net()", "long shape(int,int)", "boolean extra(int)",
            "long worth(int)", "int ways(int,int)", "int rest(int)", "long bars(int)", "int step(int)", "int go()",
            "long ring(int)", "int all(int,boolean)", "long one(int)", "long best()", "long loss(int,boolean)",
            "int coming()", "long comes(int,boolean)", "long gifts(int)", "long gift(int,int,boolean)",
            "long good(boolean)", "int edge(int,int,int,boolean)", "int lie(int)", "long lied()", "int image()",
            "int octet(int)", "boolean on()");
    private static final String[] BANNED = {"throw", "throws", "try", "catch", "finally", "synchronized", "assert",
        "protected", "new Object", "System.out", "System.currentTimeMillis", "System.nanoTime", "hashCode", "->", "::",
        "Exact(", "static {", "Math.random", "Math.pow", "Math.sqrt", "String.format"};

    public static void main(String[] args) throws IOException {
        Checks c = new Checks();
        face(c);
        classes(c);
        String text = Files.readString(Path.of("src/main/java/TieStreet.java"));
        String code = withoutComments(text);
        words(c, code);
        lengths(c, code);
        rows(c, code);
        c.finish();
    }

    private static void face(Checks c) {
        int kind = TieStreet.class.getModifiers();
        c.due("public and final", Modifier.isPublic(kind) && Modifier.isFinal(kind), true);
        Set<String> found = new TreeSet<>();
        Set<String> names = new TreeSet<>();
        for (Method method : TieStreet.class.getDeclaredMethods()) {
            if (Modifier.isPublic(method.getModifiers())) {
                names.add(method.getName());
                found.add(signature(method));
                c.due(method + " is no static one", Modifier.isStatic(method.getModifiers()), false);
            } else {
                c.due(method + " is private", Modifier.isPrivate(method.getModifiers()), true);
            }
        }
        c.due("the face " + found, found.equals(new TreeSet<>(FACE)), true);
        for (Class<?> each : all()) {
            for (Method method : each.getDeclaredMethods()) {
                boolean own = each != TieStreet.class || !Modifier.isPublic(method.getModifiers());
                c.due(method + " bears a name of the face", own && names.contains(method.getName()), false);
            }
        }
        for (Field field : TieStreet.class.getDeclaredFields()) {
            boolean none = field.getName().equals("NONE") && Modifier.isPublic(field.getModifiers());
            c.due(field + " is private", none || Modifier.isPrivate(field.getModifiers()), true);
        }
        c.due("NONE", TieStreet.NONE, -1);
        c.due("constructors", TieStreet.class.getDeclaredConstructors().length, 1);
        c.due("public constructors", TieStreet.class.getConstructors().length, 1);
    }

    private static String signature(Method method) {
        List<String> types = new ArrayList<>();
        for (Class<?> type : method.getParameterTypes()) {
            types.add(type.getName());
        }
        return method.getReturnType().getName() + " " + method.getName() + "(" + String.join(",", types) + ")";
    }

    private static List<Class<?>> all() {
        List<Class<?>> all = new ArrayList<>(List.of(TieStreet.class));
        all.addAll(List.of(TieStreet.class.getDeclaredClasses()));
        return all;
    }

    private static void classes(Checks c) {
        c.due("twelve classes at most", all().size() <= 12, true);
        for (Class<?> each : all()) {
            if (each != TieStreet.class) {
                c.due(each + " is static", Modifier.isStatic(each.getModifiers()), true);
                c.due(each + " holds no class", each.getDeclaredClasses().length, 0);
            }
            int fields = 0;
            for (Field field : each.getDeclaredFields()) {
                boolean constant = Modifier.isStatic(field.getModifiers());
                fields += constant ? 0 : 1;
                c.due(field + " is final", !constant || Modifier.isFinal(field.getModifiers()), true);
            }
            c.due(each + " has twenty fields at most", fields <= 20, true);
            List<Executable> calls = new ArrayList<>(List.of(each.getDeclaredMethods()));
            calls.addAll(List.of(each.getDeclaredConstructors()));
            for (Executable call : calls) {
                c.due(call + " takes seven at most", call.getParameterCount() <= 7, true);
                c.due(call + " is none of Object's", Set.of("equals", "toString").contains(call.getName()), false);
            }
        }
    }

    private static String withoutComments(String text) {
        return text.replaceAll("(?s)/\\*.*?\\*/", "").replaceAll("//[^\n]*", "");
    }

    private static void words(Checks c, String code) {
        for (String word : BANNED) {
            boolean letters = Character.isLetter(word.charAt(0)) && Character.isLetter(word.charAt(word.length() - 1));
            String pattern = letters ? "\\b" + Pattern.quote(word) + "\\b" : Pattern.quote(word);
            c.due("'" + word + "' in the text", Pattern.compile(pattern).matcher(code).find(), false);
        }
        Matcher imports = Pattern.compile("import ([^;]*);").matcher(code);
        while (imports.find()) {
            c.due("import " + imports.group(1), imports.group(1).equals("java.util.Arrays"), true);
        }
        c.due("no package", code.contains("package "), false);
        for (char sign : code.toCharArray()) {
            if (sign > 126) {
                c.due("a sign above 126", sign, 126);
            }
        }
        Matcher calls = Pattern.compile("\\b(Math|Long|Integer|System|Arrays)\\.(\\w+)").matcher(code);
        Set<String> allowed = Set.of("Math.max", "Math.min", "Math.abs", "Long.bitCount", "Integer.bitCount",
                "System.arraycopy", "Arrays.fill");
        while (calls.find()) {
            c.due(calls.group(), allowed.contains(calls.group()), true);
        }
    }

    /** All calls of a run live in one room: rows are made with the object, none by a call. */
    private static void rows(Checks c, String code) {
        for (String line : code.split("\n")) {
            boolean field = line.matches(" +(private )?final .* = new .*");
            boolean constructor = line.matches(" {12}(this\\.)?(tokens|nets|times) = new .*");
            c.due("made by a call: " + line.trim(), line.contains("new ") && !field && !constructor, false);
        }
    }

    /** A method ends with the first brace as far in as the line that begins it. */
    private static void lengths(Checks c, String code) {
        String[] lines = code.split("\n");
        Pattern head = Pattern.compile("^( {4}| {8})[\\w\\[\\]]+[^=;]*\\(.*\\) \\{$");
        for (int i = 0; i < lines.length; i++) {
            Matcher matcher = head.matcher(lines[i]);
            if (matcher.find()) {
                int end = i;
                while (!lines[end].equals(matcher.group(1) + "}")) {
                    end++;
                }
                c.due("sixty lines at most: " + lines[i].trim(), end - i + 1 <= 60, true);
            }
        }
    }
}
