import java.io.IOException;
import java.lang.reflect.Constructor;
import java.lang.reflect.Field;
import java.lang.reflect.Method;
import java.lang.reflect.Modifier;
import java.nio.file.Files;
import java.nio.file.Path;
import java.util.ArrayList;
import java.util.Arrays;
import java.util.List;
import java.util.Set;
import java.util.TreeSet;
import java.util.regex.Matcher;
import java.util.regex.Pattern;

/** The face, member by member, and those rules of LANGUAGE.md that can be seen in the class or its text. */
public final class HeardVotesRules {
    private static final String SOURCE = "src/main/java/HeardVotes.java";
    private static final String[] FACE = {
        "int feed(int,int,int,int,int)", "int text(int)", "int fault()", "int where()", "int about(int)",
        "int hearing(int,int)", "int word(int,int,int)", "int letter(int,int)", "int far(int,int)",
        "int between(int,int)", "boolean costs(int,int,int)", "boolean window(int)", "boolean share(int)",
        "int weight(int,int)", "int join(int)", "int joinAll(int)", "int drop(int)", "int weigh()", "int undo()",
        "int slot(int,int)", "int at(int,int)", "int choice(int,int,int)", "int doubt(int,int)", "int doubtful(int)",
        "int heard(int,int)", "int errors(int)", "int cost(int)", "int way(int,int)", "int without(int)",
        "int best(int)", "int write()", "int octet(int) throws NoSuchElementException", "int size()", "int trouble()"};
    private static final String[] FORBIDDEN = {
        "->", "::", "\\bcatch\\b", "\\bfinally\\b", "\\bsynchronized\\b", "\\bassert\\b", "\\bpackage\\b",
        "\\bInteger\\.valueOf\\b", "\\bObjects\\b", "Exact\\(", "\\.getMessage\\b", "\\bhashCode\\b", "\\btoString\\b",
        "\\bgetClass\\b", "\\bSystem\\.(?!arraycopy)", "\\bThread\\b", "\\bdouble\\b", "\\bfloat\\b", "\\bprotected\\b"};

    private static int wrong = 0;

    public static void main(String[] args) throws IOException {
        theFace();
        theClassesInside();
        theText();
        System.out.println(wrong == 0 ? "the face and the rules are kept" : wrong + " rules are broken");
        if (wrong != 0) {
            System.exit(1);
        }
    }

    private static void rule(boolean isKept, String what) {
        if (!isKept) {
            wrong++;
            System.out.println("not kept: " + what);
        }
    }

    private static void theFace() {
        Class<?> face = HeardVotes.class;
        int flags = face.getModifiers();
        rule(Modifier.isPublic(flags) && Modifier.isFinal(flags), "public and final");
        Set<String> found = new TreeSet<>();
        Set<String> names = new TreeSet<>();
        for (Method method : face.getDeclaredMethods()) {
            if (!Modifier.isPrivate(method.getModifiers())) {
                rule(method.getModifiers() == Modifier.PUBLIC, "public alone: " + method);
                found.add(told(method));
                names.add(method.getName());
            }
        }
        rule(found.equals(new TreeSet<>(Arrays.asList(FACE))), "the methods of the face: " + found);
        for (Class<?> inside : all()) {
            for (Method method : inside.getDeclaredMethods()) {
                boolean isOwn = inside != face || Modifier.isPrivate(method.getModifiers());
                rule(!isOwn || !names.contains(method.getName()), "another with a name of the face: " + method);
            }
        }
        Constructor<?>[] made = face.getDeclaredConstructors();
        rule(made.length == 1 && made[0].getModifiers() == Modifier.PUBLIC && made[0].getParameterCount() == 0,
                "one public constructor");
        for (Field field : face.getDeclaredFields()) {
            rule(field.getName().equals("NONE") || Modifier.isPrivate(field.getModifiers()), "private: " + field);
        }
        rule(HeardVotes.NONE == -1, "NONE is -1");
    }

    private static String told(Method method) {
        StringBuilder all = new StringBuilder(method.getReturnType().getSimpleName());
        all.append(" ").append(method.getName()).append("(");
        for (Class<?> type : method.getParameterTypes()) {
            all.append(all.charAt(all.length() - 1) == '(' ? "" : ",").append(type.getSimpleName());
        }
        all.append(")");
        for (Class<?> type : method.getExceptionTypes()) {
            all.append(" throws ").append(type.getSimpleName());
        }
        return all.toString();
    }

    private static List<Class<?>> all() {
        List<Class<?>> all = new ArrayList<>(List.of(HeardVotes.class));
        all.addAll(Arrays.asList(HeardVotes.class.getDeclaredClasses()));
        return all;
    }

    private static void theClassesInside() {
        rule(all().size() <= 12, "some twelve classes");
        for (Class<?> inside : all()) {
            int own = 0;
            for (Field field : inside.getDeclaredFields()) {
                boolean isStatic = Modifier.isStatic(field.getModifiers());
                rule(!isStatic || Modifier.isFinal(field.getModifiers()), "static and final: " + field);
                rule(!isStatic || field.getType() == int.class, "constants are ints: " + field);
                own += isStatic ? 0 : 1;
            }
            rule(own <= 20, "some twenty fields: " + inside);
            for (Method method : inside.getDeclaredMethods()) {
                rule(method.getParameterCount() <= 7, "seven parameters: " + method);
            }
            int flags = inside.getModifiers();
            rule(inside == HeardVotes.class || Modifier.isStatic(flags) && !Modifier.isPublic(flags),
                    "static, not public: " + inside);
        }
    }

    private static void theText() throws IOException {
        String source = Files.readString(Path.of(SOURCE));
        rule(source.chars().allMatch(c -> c == '\n' || c >= 32 && c < 127), "plain signs alone");
        String code = source.replaceAll("(?s)/\\*.*?\\*/", "").replaceAll("//[^\n]*", "");
        for (String forbidden : FORBIDDEN) {
            Matcher found = Pattern.compile(forbidden).matcher(code);
            rule(!found.find(), "nowhere: " + forbidden);
        }
        Matcher imported = Pattern.compile("import ([^;]*);").matcher(code);
        while (imported.find()) {
            rule(Set.of("java.util.Arrays", "java.util.NoSuchElementException").contains(imported.group(1)),
                    "imported: " + imported.group(1));
        }
        Matcher made = Pattern.compile("\\bthrow new (\\w+)").matcher(code);
        while (made.find()) {
            rule(made.group(1).equals("NoSuchElementException"), "thrown: " + made.group(1));
        }
        shortMethods(source.split("\n"));
    }

    private static void shortMethods(String[] lines) {
        Pattern begin = Pattern.compile("^( {4}| {8})\\w[^=;]*\\(.*\\{$");
        for (int from = 0; from < lines.length; from++) {
            Matcher method = begin.matcher(lines[from]);
            if (method.find()) {
                int to = from;
                while (to < lines.length && !lines[to].equals(method.group(1) + "}")) {
                    to++;
                }
                rule(to - from <= 60, "sixty lines: " + lines[from]);
            }
        }
    }
}
