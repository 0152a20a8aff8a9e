import java.lang.reflect.Constructor;
import java.lang.reflect.Field;
import java.lang.reflect.Method;
import java.lang.reflect.Modifier;
import java.nio.charset.StandardCharsets;
import java.nio.file.Files;
import java.nio.file.Path;
import java.util.Arrays;
import java.util.Set;
import java.util.TreeSet;
import java.util.regex.Matcher;
import java.util.regex.Pattern;

/** The public face as the document has it, and those rules of LANGUAGE.md that a program can look at. */
public final class CanalEndFace {
    private static final Path SOURCE = Path.of("src/main/java/CanalEnd.java");
    private static final String FACE = """
        int canal(int,int,int,int)
        int ofMile(int,int)
        int turn(int,int,int)
        int ofOutlet(int,int)
        int kind(int,int)
        int needs(int,int)
        int guard(int,boolean)
        int syphon(int)
        int behind(int,int,boolean)
        int seeps(int,int,boolean)
        int level(int,int,boolean)
        int takes(int,int,boolean)
        int row(int,int,int,int,int)
        int reading(int,int,boolean,int)
        int back(int)
        int fits()
        int sure(int)
        long guilt(int,int)
        int tells(int,boolean,int)
        int settle(int)
        int brings(int,int,int)
        int best(int)
        long gains(int,int,int)
        int holds(int,int,int,int,int)
        int digs(int,int,int,int,int)
        int even(int,int)
        int tempts(int,int)
        int kept(int,int,int)
        int sheet(int,int,int)
        int lose(int)
        int put(int,int,int)
        long cell(int,int,int)
        int copy(int,int,int,int,int)
        int tell(int)
        int see(int)
        int as(int,int)
        int trace()
        int fault()
        int many(int)
        """;
    private static final String[] FORBIDDEN = {
        "throw", "throws", "try", "catch", "synchronized", "assert", "import", "package", "protected",
        "hashCode", "toString", "equals", "\\w+Exact", "->", "::", "new Object",
    };
    private static int wrong = 0;

    private static void check(boolean is, String told) {
        if (!is) {
            wrong++;
            System.out.println(told);
        }
    }

    public static void main(String[] args) throws Exception {
        methods();
        fields();
        nested();
        source();
        System.out.println(wrong == 0 ? "the face is as told" : wrong + " things are not as told");
        if (wrong != 0) {
            System.exit(1);
        }
    }

    private static void methods() {
        Set<String> due = new TreeSet<>(Arrays.asList(FACE.strip().split("\\s*\n\\s*")));
        Set<String> open = new TreeSet<>();
        Set<String> names = new TreeSet<>();
        for (Method m : CanalEnd.class.getDeclaredMethods()) {
            if (!Modifier.isPrivate(m.getModifiers())) {
                String types = String.join(",", Arrays.stream(m.getParameterTypes()).map(Class::getName).toList());
                open.add(m.getReturnType().getName() + " " + m.getName() + "(" + types + ")");
                names.add(m.getName());
                check(Modifier.isPublic(m.getModifiers()) && !Modifier.isStatic(m.getModifiers()), m + " is not public");
            }
        }
        check(due.equals(open), "open methods are " + open);
        for (Method m : CanalEnd.class.getDeclaredMethods()) {
            boolean hides = Modifier.isPrivate(m.getModifiers()) && names.contains(m.getName());
            check(!hides, "a private method bears the name of a public one: " + m);
        }
        Constructor<?>[] makers = CanalEnd.class.getDeclaredConstructors();
        check(makers.length == 1 && Modifier.isPublic(makers[0].getModifiers())
                && makers[0].getParameterCount() == 0, "constructors are not as told");
        check(Modifier.isFinal(CanalEnd.class.getModifiers()), "the class is not final");
    }

    private static void fields() {
        Set<String> open = new TreeSet<>();
        for (Field f : CanalEnd.class.getDeclaredFields()) {
            boolean isStatic = Modifier.isStatic(f.getModifiers());
            check(!isStatic || Modifier.isFinal(f.getModifiers()), f + " is static state");
            if (!Modifier.isPrivate(f.getModifiers())) {
                open.add(f.getType() + " " + f.getName());
                check(isStatic && Modifier.isPublic(f.getModifiers()), f + " is no public constant");
            }
        }
        Set<String> due = new TreeSet<>(Arrays.asList(
                "int UNKNOWN", "int OUTSIDE", "int STATE", "int FULL", "int NONE", "long LOST"));
        check(due.equals(open), "open fields are " + open);
    }

    private static void nested() {
        Class<?>[] inside = CanalEnd.class.getDeclaredClasses();
        check(inside.length < 12, "too many classes");
        for (Class<?> c : inside) {
            check(Modifier.isStatic(c.getModifiers()) && !Modifier.isPublic(c.getModifiers()), c + " is open or not static");
            long own = Arrays.stream(c.getDeclaredFields()).filter(f -> !Modifier.isStatic(f.getModifiers())).count();
            check(own <= 20, c + " has too many fields");
            for (Method m : c.getDeclaredMethods()) {
                check(m.getParameterCount() <= 7, m + " takes too much");
                check(!FACE.contains(" " + m.getName() + "("), m + " bears the name of a public one");
            }
        }
    }

    private static void source() throws Exception {
        String text = Files.readString(SOURCE, StandardCharsets.UTF_8);
        check(text.chars().allMatch(c -> c > 0 && c < 128), "a sign beyond 127");
        String code = text.replaceAll("(?s)/\\*.*?\\*/", " ").replaceAll("//[^\n]*", " ");
        for (String word : FORBIDDEN) {
            String whole = Character.isLetter(word.charAt(0)) || word.startsWith("\\") ? "\\b" + word + "\\b" : word;
            Matcher m = Pattern.compile(whole).matcher(code);
            check(!m.find(), "the program has a word that the rules leave out: " + word);
        }
    }
}
