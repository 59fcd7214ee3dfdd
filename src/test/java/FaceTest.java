import java.lang.reflect.Constructor;
import java.lang.reflect.Field;
import java.lang.reflect.Method;
import java.lang.reflect.Modifier;
import java.nio.charset.StandardCharsets;
import java.nio.file.Files;
import java.nio.file.Path;
import java.util.Arrays;
import java.util.Set;
import java.util.TreeSet;
import java.util.regex.Matcher;
import java.util.regex.Pattern;

/** The public face is the document's, and the source keeps to the rules that can be seen in its letters. */
public final class FaceTest {
    private static final String[] FACE = {
        "feed/5", "end/1", "hill/0", "rule/0", "force/1", "runner/2", "ware/2", "day/0", "lend/3", "fall/1",
        "shift/2", "train/2", "undo/0", "ahead/3", "gets/2", "rank/2", "need/3", "lender/3", "row/3", "settle/0",
        "rings/1", "had/4", "rests/3", "pence/2", "note/3", "ruled/1", "look/2", "seed/1", "falls/4", "count/1",
        "image/1", "back/1"};
    private static final String[] BARRED = {
        "throw", "throws", "try", "catch", "finally", "synchronized", "assert", "volatile", "native", "transient",
        "protected", "hashCode", "toString", "Random", "Thread", "System\\.(?!arraycopy)\\w+", "->", "::"};

    public static void main(String[] args) throws Exception {
        Checks checks = new Checks();
        checkFace(checks);
        checkNestedNames(checks);
        checkSource(checks);
        checks.finish("FaceTest");
    }

    private static void checkFace(Checks checks) {
        Set<String> due = new TreeSet<>(Arrays.asList(FACE));
        Set<String> seen = new TreeSet<>();
        for (Method method : HeadHill.class.getDeclaredMethods()) {
            if (!Modifier.isPrivate(method.getModifiers())) {
                checks.holds(method + " is public", Modifier.isPublic(method.getModifiers()));
                checks.holds(method + " answers int", method.getReturnType() == int.class);
                for (Class<?> type : method.getParameterTypes()) {
                    checks.holds(method + " takes ints", type == int.class);
                }
                seen.add(method.getName() + "/" + method.getParameterCount());
            }
        }
        checks.holds("methods " + seen + " are " + due, seen.equals(due));
        for (Field field : HeadHill.class.getDeclaredFields()) {
            boolean isNone = field.getName().equals("NONE");
            checks.holds(field + " is seen only if the document names it",
                    isNone ? Modifier.isPublic(field.getModifiers()) : Modifier.isPrivate(field.getModifiers()));
        }
        Constructor<?>[] makers = HeadHill.class.getDeclaredConstructors();
        checks.holds("one public constructor without arguments", makers.length == 1
                && Modifier.isPublic(makers[0].getModifiers()) && makers[0].getParameterCount() == 0);
        checks.holds("the class is final", Modifier.isFinal(HeadHill.class.getModifiers()));
        checks.due("NONE", HeadHill.NONE, -1);
    }

    private static void checkNestedNames(Checks checks) {
        Set<String> names = new TreeSet<>();
        for (String method : FACE) {
            names.add(method.substring(0, method.indexOf('/')));
        }
        Class<?>[] inside = HeadHill.class.getDeclaredClasses();
        checks.holds("some twelve classes at most", inside.length <= 12);
        for (Class<?> nested : inside) {
            checks.holds(nested + " is static", Modifier.isStatic(nested.getModifiers()));
            for (Method method : nested.getDeclaredMethods()) {
                checks.holds(method + " has a name of its own", !names.contains(method.getName()));
                checks.holds(method + " takes seven at most", method.getParameterCount() <= 7);
            }
            int fields = 0;
            for (Field field : nested.getDeclaredFields()) {
                if (Modifier.isStatic(field.getModifiers())) {
                    checks.holds(field + " is final", Modifier.isFinal(field.getModifiers()));
                } else {
                    fields++;
                }
            }
            checks.holds(nested + " has some twenty fields at most", fields <= 20);
        }
    }

    private static void checkSource(Checks checks) throws Exception {
        Path path = Path.of("src/main/java/HeadHill.java");
        String source = Files.readString(path, StandardCharsets.ISO_8859_1);
        String code = source.replaceAll("(?s)/\\*.*?\\*/", " ").replaceAll("//[^\n]*", " ");
        for (String barred : BARRED) {
            String pattern = Character.isLetter(barred.charAt(0)) ? "\\b" + barred + "\\b" : barred;
            Matcher matcher = Pattern.compile(pattern).matcher(code);
            checks.holds("no " + barred, !matcher.find());
        }
        Matcher imports = Pattern.compile("import\\s+([\\w.*]+)\\s*;").matcher(code);
        while (imports.find()) {
            checks.holds("import " + imports.group(1), imports.group(1).equals("java.util.Arrays"));
        }
        for (int i = 0; i < source.length(); i++) {
            if (source.charAt(i) > 126) {
                checks.holds("plain signs alone in the source", false);
            }
        }
    }
}
