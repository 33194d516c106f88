import java.lang.reflect.Method;
import java.lang.reflect.Modifier;
import java.nio.file.Files;
import java.nio.file.Path;
import java.util.Arrays;
import java.util.TreeSet;

/** The public face, and those rules of LANGUAGE.md that a look at the source can tell. */
public final class FaceTest {
    private static final Check CHECK = new Check();
    private static final String[] FACE = {"int feed(long,int)", "int node()", "int arrow(int,int)",
        "int cut(int,int)", "int operator(int,int)", "int about(int,int)", "int clear()", "int parse()",
        "int count(int)", "int trees(int,int)", "int with(int,int,int)", "int take(int)", "int item(int,int)",
        "int write()", "int octet(int)", "int number()"};

    public static void main(String[] args) throws Exception {
        TreeSet<String> found = new TreeSet<>();
        TreeSet<String> names = new TreeSet<>();
        for (Method method : MixfixDesk.class.getDeclaredMethods()) {
            if (Modifier.isPublic(method.getModifiers())) {
                found.add(signature(method));
                names.add(method.getName());
            }
        }
        CHECK.due("the face", found.toString(), new TreeSet<>(Arrays.asList(FACE)).toString());
        CHECK.due("constructors", MixfixDesk.class.getConstructors().length, 1);
        CHECK.holds("the class is public and final", Modifier.isPublic(MixfixDesk.class.getModifiers())
                && Modifier.isFinal(MixfixDesk.class.getModifiers()));
        membersAreHidden(names);
        sourceKeepsRules(Files.readString(Path.of("src/main/java/MixfixDesk.java")));
        CHECK.end();
    }

    private static String signature(Method method) {
        StringBuilder all = new StringBuilder();
        for (Class<?> type : method.getParameterTypes()) {
            all.append(all.length() == 0 ? "" : ",").append(type.getName());
        }
        return method.getReturnType().getName() + " " + method.getName() + "(" + all + ")";
    }

    private static void membersAreHidden(TreeSet<String> names) {
        for (Method method : MixfixDesk.class.getDeclaredMethods()) {
            int is = method.getModifiers();
            CHECK.holds(method + " is public or private", Modifier.isPublic(is) || Modifier.isPrivate(is));
        }
        Arrays.stream(MixfixDesk.class.getDeclaredFields()).forEach(field ->
                CHECK.holds(field + " is private", Modifier.isPrivate(field.getModifiers())));
        for (Class<?> inside : MixfixDesk.class.getDeclaredClasses()) {
            CHECK.holds(inside + " is static", Modifier.isStatic(inside.getModifiers()));
            for (Method method : inside.getDeclaredMethods()) {
                CHECK.holds(method + " has a name of its own", !names.contains(method.getName()));
                CHECK.holds(method + " takes at most seven", method.getParameterCount() <= 7);
            }
            CHECK.holds(inside + " has some twenty fields at most", fields(inside) <= 20);
        }
        CHECK.holds("some twelve classes", MixfixDesk.class.getDeclaredClasses().length < 12);
    }

    private static long fields(Class<?> inside) {
        return Arrays.stream(inside.getDeclaredFields()).filter(field -> !Modifier.isStatic(field.getModifiers())).count();
    }

    private static void sourceKeepsRules(String source) {
        String code = source.replaceAll("(?s)/\\*.*?\\*/", " ").replaceAll("//[^\n]*", " ");
        for (String word : new String[] {"throw", "throws", "try", "catch", "synchronized", "assert", "Exact", "System.out"}) {
            CHECK.holds("no " + word, !code.matches("(?s).*\\b" + word.replace(".", "\\.") + "\\b.*"));
        }
        CHECK.holds("no lambda, no method reference", !code.contains("->") && !code.contains("::"));
    }
}
