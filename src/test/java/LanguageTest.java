import java.io.IOException;
import java.lang.reflect.Constructor;
import java.lang.reflect.Field;
import java.lang.reflect.Method;
import java.lang.reflect.Modifier;
import java.nio.file.Files;
import java.nio.file.Path;
import java.util.Arrays;
import java.util.HashSet;
import java.util.List;
import java.util.Set;
import java.util.TreeSet;
import java.util.regex.Matcher;
import java.util.regex.Pattern;

/** The rules of LANGUAGE.md that can be seen from the compiled class or from its source. */
public final class LanguageTest {
    private static final Dues DUES = new Dues();
    private static final Set<String> FACE = new TreeSet<>(List.of(
        "feed(int,long)", "tongue()", "fault()", "told(int)", "word(int,int)", "at(int,int)", "stands(int)",
        "worth(int,int)", "law(int)", "way(int)", "change(int,int)", "begin(int,int)", "send(int)", "settle()",
        "had(int)", "log(int,int)", "fewest(int,int,boolean)", "still(int)", "ahead(int,int,int,int)",
        "first(int,int)", "carrier(int,int,int)", "guess(int)", "mean(int,int,int)", "fits(int)", "write(int)",
        "tear()", "judge()", "drift(int)", "seed(int)", "keep(int)", "goBack(int)"));

    public static void main(String[] args) throws IOException {
        face();
        for (Class<?> inside : OneWordLetters.class.getDeclaredClasses()) {
            nested(inside);
        }
        DUES.holds("rule 11: at most twelve classes", OneWordLetters.class.getDeclaredClasses().length <= 11);
        source(Files.readString(Path.of("src/main/java/OneWordLetters.java")));
        DUES.close("LanguageTest");
    }

    private static void face() {
        Class<?> all = OneWordLetters.class;
        DUES.holds("rule 1: public final", Modifier.isPublic(all.getModifiers()) && Modifier.isFinal(all.getModifiers()));
        Set<String> methods = new TreeSet<>();
        Set<String> names = new HashSet<>();
        for (Method method : all.getDeclaredMethods()) {
            if (!Modifier.isPrivate(method.getModifiers())) {
                methods.add(signature(method));
                names.add(method.getName());
                DUES.holds("face: public int " + method, Modifier.isPublic(method.getModifiers()) && method.getReturnType() == int.class);
            }
        }
        DUES.holds("face: " + methods, methods.equals(FACE));
        for (Method method : all.getDeclaredMethods()) {
            boolean hidden = Modifier.isPrivate(method.getModifiers());
            DUES.holds("rule 1: name of " + method, !hidden || !names.contains(method.getName()));
        }
        Constructor<?>[] makers = all.getDeclaredConstructors();
        DUES.holds("face: one constructor", makers.length == 1 && makers[0].getParameterCount() == 0 && Modifier.isPublic(makers[0].getModifiers()));
        Set<String> constants = new TreeSet<>();
        for (Field field : all.getFields()) {
            constants.add(field.getName());
        }
        DUES.holds("face: constants " + constants, constants.equals(Set.of("NONE", "UNKNOWN", "OUTSIDE", "NOT", "FULL")));
        for (Field field : all.getDeclaredFields()) {
            DUES.holds("rule 1: " + field, Modifier.isPrivate(field.getModifiers()) || constants.contains(field.getName()));
        }
        members(all);
    }

    private static String signature(Method method) {
        StringBuilder s = new StringBuilder(method.getName()).append('(');
        for (Class<?> type : method.getParameterTypes()) {
            s.append(s.charAt(s.length() - 1) == '(' ? "" : ",").append(type.getName());
        }
        return s.append(')').toString();
    }

    private static void nested(Class<?> inside) {
        int modifiers = inside.getModifiers();
        DUES.holds("rule 1, 2: " + inside, Modifier.isStatic(modifiers) && !Modifier.isPublic(modifiers) && !Modifier.isProtected(modifiers));
        for (Method method : inside.getDeclaredMethods()) {
            boolean taken = FACE.stream().anyMatch(f -> f.startsWith(method.getName() + "("));
            DUES.holds("rule 1: name of " + method, !taken);
        }
        members(inside);
    }

    private static void members(Class<?> one) {
        int fields = 0;
        for (Field field : one.getDeclaredFields()) {
            boolean fixed = Modifier.isStatic(field.getModifiers());
            fields += fixed ? 0 : 1;
            DUES.holds("rule 5: " + field, !fixed || Modifier.isFinal(field.getModifiers()));
        }
        DUES.holds("rule 11: fields of " + one, fields <= 20);
        for (Method method : one.getDeclaredMethods()) {
            DUES.holds("rule 11: parameters of " + method, method.getParameterCount() <= 7);
        }
    }

    private static void source(String text) {
        String code = text.replaceAll("(?s)/\\*.*?\\*/", " ").replaceAll("//[^\n]*", " ").replaceAll("\"[^\"\n]*\"", "\"\"");
        String[] words = {"throw", "throws", "try", "catch", "finally", "synchronized", "assert", "package", "float", "double",
            "Object", "hashCode", "toString", "native", "volatile", "transient", "static \\{", "Exception", "Error"};
        for (String word : words) {
            DUES.holds("rules 3, 6: no " + word, !Pattern.compile("\\b" + word + "\\b?").matcher(code).find());
        }
        for (String sign : new String[] {"->", "::", "Exact(", "@"}) {
            DUES.holds("rules 2, 4: no " + sign, !code.contains(sign));
        }
        allowed(code, "import ([a-zA-Z.*]+);", "java.util.Arrays", "java.util.ArrayList", "java.util.List");
        allowed(code, "\\bSystem\\.(\\w+)", "arraycopy");
        allowed(code, "\\bArrays\\.(\\w+)", "fill", "copyOf", "copyOfRange");
        allowed(code, "\\bMath\\.(\\w+)", "max", "min", "abs", "floorDiv", "floorMod");
        allowed(code, "\\b(?:Integer|Long|String|Character)\\.(\\w+)");
        DUES.holds("rule 3: signs 1 to 127 alone", text.chars().allMatch(c -> c == '\n' || c >= 32 && c < 127));
        methodLengths(text);
    }

    private static void allowed(String code, String pattern, String... fine) {
        Matcher m = Pattern.compile(pattern).matcher(code);
        while (m.find()) {
            DUES.holds("rule 4: " + m.group(), Arrays.asList(fine).contains(m.group(1)));
        }
    }

    /** A method begins with a line that opens a brace behind ')' and ends at the brace below its own first sign. */
    private static void methodLengths(String text) {
        String[] lines = text.split("\n");
        for (int i = 0; i < lines.length; i++) {
            Matcher m = Pattern.compile("^( {4}| {8})[A-Za-z].*\\) \\{$").matcher(lines[i]);
            if (m.matches() && !lines[i].matches(" *(if|for|while|switch|else|do)\\b.*")) {
                int end = i + 1;
                while (end < lines.length && !lines[end].equals(m.group(1) + "}")) {
                    end++;
                }
                DUES.holds("rule 11: length of " + lines[i].trim(), end - i <= 60);
            }
        }
    }
}
