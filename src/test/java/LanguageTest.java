import java.io.IOException;
import java.lang.reflect.Constructor;
import java.lang.reflect.Field;
import java.lang.reflect.Method;
import java.lang.reflect.Modifier;
import java.nio.file.Files;
import java.nio.file.Path;
import java.util.ArrayList;
import java.util.List;
import java.util.Set;
import java.util.TreeSet;
import java.util.regex.Matcher;
import java.util.regex.Pattern;

/** What of LANGUAGE.md can be seen from the text of the class and from its members. */
public final class LanguageTest {
    private static final Check C = new Check();
    private static final Set<String> FACE = Set.of(
        "int days(int)", "int town(int,int)", "int way(int,int,int)", "int limit(int,int)",
        "int keeper(int,int,int,int)", "int house(int,int)", "int stay(int,int,int)", "int stayOf(int,int)",
        "int why(int,int)", "int take(int,int)", "int cancel(int)", "int where(int,int)", "int feed(int,long)",
        "int term(int,int)", "int worth(int,int)", "int review(int,boolean,int)", "int hand(int,int)",
        "int trust(int,int)", "int bound(int,int)", "int stars(int,int)", "int put(int)", "int unput()",
        "int chain(int,int)", "int wish(int,int,int)", "int pair(int)", "int tell(int)", "int judge()",
        "int whoElse(int)", "int place(int)", "int group(int)", "int list(int,boolean,int)",
        "int look(int,int,int)", "int gone(int)", "int claim(int)", "int count(int)");

    public static void main(String[] args) throws IOException {
        String source = Files.readString(Path.of("src/main/java/HouseKeepers.java"));
        face();
        classes();
        words(withoutComments(source));
        lengths(source);
        C.finish("LanguageTest");
    }

    private static void face() {
        Set<String> open = new TreeSet<>();
        Set<String> hidden = new TreeSet<>();
        Set<String> names = new TreeSet<>();
        for (Method method : HouseKeepers.class.getDeclaredMethods()) {
            if (Modifier.isPrivate(method.getModifiers())) hidden.add(method.getName());
            else open.add(signature(method));
            if (!Modifier.isPrivate(method.getModifiers())) names.add(method.getName());
        }
        C.due("rule 1: the face is the document's " + open, open.equals(FACE) ? 1 : 0, 1);
        for (Class<?> inside : HouseKeepers.class.getDeclaredClasses()) {
            for (Method method : inside.getDeclaredMethods()) hidden.add(method.getName());
        }
        hidden.retainAll(names);
        C.due("rule 1: no other method bears a name of the face " + hidden, hidden.size(), 0);
        for (Field field : HouseKeepers.class.getDeclaredFields()) {
            C.due("rule 1: private " + field, Modifier.isPrivate(field.getModifiers()) ? 1 : 0, 1);
        }
        C.due("rule 1: final", Modifier.isFinal(HouseKeepers.class.getModifiers()) ? 1 : 0, 1);
        C.due("rule 1: constructors", HouseKeepers.class.getDeclaredConstructors().length, 1);
    }

    private static String signature(Method method) {
        List<String> types = new ArrayList<>();
        for (Class<?> type : method.getParameterTypes()) types.add(type.getSimpleName());
        return method.getReturnType().getSimpleName() + " " + method.getName() + "(" + String.join(",", types) + ")";
    }

    private static void classes() {
        List<Class<?>> all = new ArrayList<>(List.of(HouseKeepers.class.getDeclaredClasses()));
        for (Class<?> inside : all) {
            C.due("rule 2: static " + inside, Modifier.isStatic(inside.getModifiers()) ? 1 : 0, 1);
        }
        all.add(HouseKeepers.class);
        C.due("rule 11: twelve classes at most", Math.max(all.size(), 12), 12);
        for (Class<?> one : all) {
            int fields = 0;
            for (Field field : one.getDeclaredFields()) {
                boolean isStatic = Modifier.isStatic(field.getModifiers());
                if (!isStatic) fields++;
                C.due("rule 5: final " + field, isStatic && !Modifier.isFinal(field.getModifiers()) ? 1 : 0, 0);
            }
            C.due("rule 11: twenty fields at most of " + one, Math.max(fields, 20), 20);
            for (Method method : one.getDeclaredMethods()) {
                C.due("rule 11: seven parameters at most " + method, Math.max(method.getParameterCount(), 7), 7);
            }
            for (Constructor<?> made : one.getDeclaredConstructors()) {
                C.due("rule 11: seven parameters at most " + made, Math.max(made.getParameterCount(), 7), 7);
            }
        }
    }

    private static String withoutComments(String source) {
        return source.replaceAll("(?s)/\\*.*?\\*/", "").replaceAll("//[^\n]*", "");
    }

    private static void words(String code) {
        String[] banned = {"throw", "throws", "try", "catch", "synchronized", "assert", "var", "Object", "double",
            "float", "Exception", "protected", "volatile", "native", "Thread", "Random", "hashCode", "toString",
            "instanceof", "\\w+Exact", "package", "yield"};
        for (String word : banned) {
            C.due("rule 6: the word " + word, found("\\b" + word + "\\b", code), 0);
        }
        for (String sign : new String[] {"->", "::", "\" \\+", "\\+ \"", "@"}) {
            C.due("the sign " + sign, found(sign, code), 0);
        }
        C.due("one import", found("\\bimport\\b", code), 1);
        C.due("which", found("import java\\.util\\.Arrays;", code), 1);
        Matcher system = Pattern.compile("System\\.\\w+").matcher(code);
        while (system.find()) C.due("rule 4: " + system.group(), system.group().equals("System.arraycopy") ? 1 : 0, 1);
        Matcher arrays = Pattern.compile("Arrays\\.(\\w+)").matcher(code);
        while (arrays.find()) {
            C.due("rule 4: " + arrays.group(), Set.of("fill", "copyOf", "copyOfRange").contains(arrays.group(1)) ? 1 : 0, 1);
        }
        C.due("rule 9: a loop without a counter", found("\\bwhile\\b|\\bdo\\b|for \\(;;", code), 0);
        C.due("rule 5: a static block", found("static \\{", code), 0);
        for (int i = 0; i < code.length(); i++) {
            if (code.charAt(i) > 126) C.due("a sign above 126 at " + i, 1, 0);
        }
    }

    private static int found(String pattern, String code) {
        Matcher matcher = Pattern.compile(pattern).matcher(code);
        int sum = 0;
        while (matcher.find()) sum++;
        return sum;
    }

    /** By the indents: a method begins on a line that ends with a brace and ends with one at the same indent. */
    private static void lengths(String source) {
        String[] lines = source.split("\n");
        for (int i = 0; i < lines.length; i++) {
            if (!lines[i].matches("( {4}| {8})[a-zA-Z].*\\) \\{")) continue;
            String indent = lines[i].substring(0, lines[i].indexOf(lines[i].trim()));
            int end = i + 1;
            while (end < lines.length && !lines[end].equals(indent + "}")) end++;
            C.due("rule 11: sixty lines at most from line " + (i + 1), Math.max(end - i + 1, 60), 60);
        }
    }
}
