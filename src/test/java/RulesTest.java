import java.io.IOException;
import java.lang.management.ManagementFactory;
import java.lang.reflect.Constructor;
import java.lang.reflect.Field;
import java.lang.reflect.Method;
import java.lang.reflect.Modifier;
import java.nio.file.Files;
import java.nio.file.Path;
import java.util.ArrayList;
import java.util.List;
import java.util.Set;
import java.util.TreeSet;
import java.util.regex.Matcher;
import java.util.regex.Pattern;

/** What LANGUAGE.md and the document's face ask of the source itself, as far as a plain look at it shows. */
public final class RulesTest {
    private static final Path SOURCE = Path.of("src/main/java/DowrySteps.java");
    private static final Path DOCUMENT = Path.of("../shared/DOC.md");

    private static void due(String what, long got, long want) {
        Checks.due(what, got, want);
    }

    public static void main(String[] args) throws IOException {
        String source = Files.readString(SOURCE);
        face(Files.readString(DOCUMENT));
        words(source);
        methods(source);
        names(source);
        room();
        Checks.finish("rules");
    }

    /** Rule 1: what others see of the class is just what the document's block of code tells. */
    private static void face(String document) {
        int from = document.indexOf("```java");
        String block = document.substring(from, document.indexOf("```", from + 3));
        Set<String> told = new TreeSet<>();
        Matcher line = Pattern.compile("public (int|long) (\\w+)\\(([^)]*)\\);").matcher(block);
        while (line.find()) {
            told.add(line.group(1) + " " + line.group(2) + "(" + line.group(3).replaceAll(" \\w+(,|$)", "$1").trim() + ")");
        }
        Set<String> seen = new TreeSet<>();
        for (Method method : DowrySteps.class.getDeclaredMethods()) {
            if (!Modifier.isPrivate(method.getModifiers())) {
                List<String> types = new ArrayList<>();
                for (Class<?> type : method.getParameterTypes()) {
                    types.add(type.getName());
                }
                seen.add(method.getReturnType().getName() + " " + method.getName() + "(" + String.join(", ", types) + ")");
                due("public: " + method, Modifier.isPublic(method.getModifiers()) && !Modifier.isStatic(method.getModifiers()) ? 1 : 0, 1);
            }
        }
        due("methods of the face: " + told + " against " + seen, told.equals(seen) ? 1 : 0, 1);
        due("number of methods", seen.size(), 54);
        for (Constructor<?> made : DowrySteps.class.getDeclaredConstructors()) {
            due("constructor " + made, Modifier.isPublic(made.getModifiers()) ? made.getParameterCount() : -1, 0);
        }
        for (Field field : DowrySteps.class.getDeclaredFields()) {
            due("field " + field, Modifier.isPrivate(field.getModifiers()) ? 1 : 0, field.getName().equals("NONE") ? 0 : 1);
        }
    }

    private static String bare(String source) {
        return source.replaceAll("(?s)/\\*.*?\\*/", "").replaceAll("//[^\n]*", "").replaceAll("\"[^\"\n]*\"", "\"\"");
    }

    /** Rules 2 to 6 and 13: words and signs that may not stand there. */
    private static void words(String source) {
        String[] never = {"\\bthrow", "\\btry\\b", "\\bcatch\\b", "\\bfinally\\b", "\\bsynchronized\\b", "\\bassert\\b", "->", "::",
            "@", "\\bvar\\b", "\\bprotected\\b", "\\bpackage\\b", "\\bgoto\\b", "\\bfloat\\b", "Exact\\b", "System\\.(?!arraycopy)",
            "\\bObject\\b", "\\.equals\\b", "hashCode", "toString", "static \\{", "\\bThread\\b", "Random"};
        String text = bare(source);
        for (String word : never) {
            due("how often " + word + " stands there", Pattern.compile(word).matcher(text).results().count(), 0);
        }
        Matcher imports = Pattern.compile("import ([^;]*);").matcher(text);
        while (imports.find()) {
            due("import " + imports.group(1), imports.group(1).equals("java.util.Arrays") ? 1 : 0, 1);
        }
        due("signs above 127", source.chars().filter(c -> c > 127).count(), 0);
        due("static fields that can change",
            Pattern.compile("\\bstatic (?!final|boolean is|abstract)[\\w\\[\\]]+ \\w+( =|;)").matcher(text).results().count(), 0);
    }

    /** Rule 11: short methods of few parameters, few classes. */
    private static void methods(String source) {
        String[] lines = bare(source).split("\n");
        for (int i = 0; i < lines.length; i++) {
            Matcher head = Pattern.compile("^( {4}| {8})((private |public |static |final )*[\\w\\[\\]]+ \\w+)\\(([^)]*)\\) \\{$").matcher(lines[i]);
            if (head.find()) {
                int end = i;
                while (!lines[end].equals(head.group(1) + "}")) {
                    end++;
                }
                due("lines of " + head.group(2), end - i < 60 ? 1 : 0, 1);
                due("parameters of " + head.group(2), head.group(4).split(",").length <= 7 ? 1 : 0, 1);
            }
        }
        due("classes", DowrySteps.class.getDeclaredClasses().length < 12 ? 1 : 0, 1);
        for (Class<?> inside : DowrySteps.class.getDeclaredClasses()) {
            due("static " + inside, Modifier.isStatic(inside.getModifiers()) && !Modifier.isPublic(inside.getModifiers()) ? 1 : 0, 1);
            int fields = 0;
            for (Field field : inside.getDeclaredFields()) {
                fields += Modifier.isStatic(field.getModifiers()) ? 0 : 1;
            }
            due("fields of " + inside, fields <= 20 ? 1 : 0, 1);
        }
    }

    /** Rule 1: no private method, inside the classes either, bears the name of a public one. */
    private static void names(String source) {
        Set<String> face = new TreeSet<>();
        for (Method method : DowrySteps.class.getDeclaredMethods()) {
            if (Modifier.isPublic(method.getModifiers())) {
                face.add(method.getName());
            }
        }
        List<Method> others = new ArrayList<>(List.of(DowrySteps.class.getDeclaredMethods()));
        for (Class<?> inside : DowrySteps.class.getDeclaredClasses()) {
            others.addAll(List.of(inside.getDeclaredMethods()));
        }
        for (Method method : others) {
            if (!Modifier.isPublic(method.getModifiers())) {
                due("name of " + method, face.contains(method.getName()) ? 1 : 0, 0);
            }
        }
    }

    /** The room: a made object keeps all that its calls need, so that no call makes anything. */
    private static void room() {
        StringBuilder text = new StringBuilder("mountain places 8 years 30;");
        for (int i = 1; i < 8; i++) {
            text.append("height ").append(i).append(' ').append(9 * i).append(";path ").append(i - 1).append(" to ").append(i).append(';');
        }
        text.append("path 0 to 7;path 0 to 5;path 2 to 7;bride path 1 in 0;bride path 9 in 0;bride path 8 in 0;bride path 7 in 0;");
        for (int i = 0; i < 7; i++) {
            text.append("suitor skill ").append(i).append(" spite ").append(i).append(" for 0 1 2 3;");
        }
        text.append("walker leap 8 at 0;walker leap 20 at 1;");
        DowrySteps x = new DowrySteps();
        byte[] bytes = Checks.bytesOf(text.toString());
        Checks.putRow(x, 0, 0, 1, 0, 9, 9, 0, 23, 8, 0, 45);
        com.sun.management.ThreadMXBean threads = (com.sun.management.ThreadMXBean) ManagementFactory.getThreadMXBean();
        long thread = Thread.currentThread().getId();
        askDearly(x, bytes);
        long before = threads.getThreadAllocatedBytes(thread);
        long began = System.nanoTime();
        for (int i = 0; i < 20; i++) {
            askDearly(x, bytes);
        }
        long made = threads.getThreadAllocatedBytes(thread) - before;
        due("bytes made by dear calls: " + made, made < 20000 ? 1 : 0, 1);
        System.out.println("dear calls: " + made + " bytes made, " + (System.nanoTime() - began) / 1000000 + " ms");
    }

    private static void askDearly(DowrySteps x, byte[] bytes) {
        Checks.feedText(x, bytes);
        x.mountain();
        x.all(7, 0);
        x.whom(0, 7, 0, 0);
        x.courtings(1, 7, 0);
        x.agree(0);
        x.sure(0, 0);
        x.ways(1, 7, 0);
        x.safest(1, 7, 0, 0);
        x.walks(5, 20, 1, 7, 0);
        x.peaces(40);
        x.vain(0);
        x.when(0, 7, 2);
        x.image(0);
        x.back(0);
        x.paste(0, 0, 0, 1, 2);
        x.sold(0, 7, 0);
        x.need(0, 7, 0);
    }
}
