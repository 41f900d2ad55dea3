import java.lang.reflect.Constructor;
import java.lang.reflect.Field;
import java.lang.reflect.Method;
import java.lang.reflect.Modifier;
import java.nio.file.Files;
import java.nio.file.Path;
import java.util.Set;
import java.util.TreeSet;
import java.util.regex.Matcher;
import java.util.regex.Pattern;

// The public face, and those rules of the language that can be seen in the class or in its text.
public final class FaceTests {
    private static final Path SOURCE = Path.of("src/main/java/ScoreDesk.java");
    private static final int LONGEST_METHOD = 60;

    private static int wrong = 0;

    public static void main(String[] args) throws Exception {
        face();
        hiddenMembers();
        words(withoutComments(Files.readString(SOURCE)));
        lengths(withoutComments(Files.readString(SOURCE)));
        System.out.println(wrong == 0 ? "the face and the language are as due" : wrong + " faults");
        if (wrong != 0) {
            System.exit(1);
        }
    }

    private static void holds(boolean so, String what) {
        if (!so) {
            wrong++;
            System.out.println("does not hold: " + what);
        }
    }

    private static void face() {
        Set<String> due = new TreeSet<>(Set.of(
                "int OK", "int LONG", "int BAD", "int FULL", "ScoreDesk()",
                "int add(int, int, int, int)", "int clear()", "boolean units(int, int, int)", "boolean fetch(int, int)",
                "boolean bank(int)", "boolean poke(int, int)", "boolean set(int, int)", "boolean exchange(int)",
                "int run()", "int peek(int)", "int value(int)", "int done()", "int cycles()", "int time(int, int)",
                "int lost(int)", "int busy(int, int)"));
        Set<String> got = new TreeSet<>();
        for (Field f : ScoreDesk.class.getDeclaredFields()) {
            if (!Modifier.isPrivate(f.getModifiers())) {
                got.add(f.getType() + " " + f.getName());
            }
        }
        for (Constructor<?> c : ScoreDesk.class.getDeclaredConstructors()) {
            got.add(c.getName() + types(c.getParameterTypes()));
        }
        for (Method m : ScoreDesk.class.getDeclaredMethods()) {
            if (!Modifier.isPrivate(m.getModifiers())) {
                got.add(m.getReturnType() + " " + m.getName() + types(m.getParameterTypes()));
            }
        }
        holds(got.equals(due), "the face is " + due + ", got " + got);
        holds(Modifier.isPublic(ScoreDesk.class.getModifiers()), "the class is public");
        holds(Modifier.isFinal(ScoreDesk.class.getModifiers()), "the class is final");
        holds(ScoreDesk.class.getDeclaredClasses().length == 0, "no nested class");
    }

    private static String types(Class<?>[] types) {
        StringBuilder text = new StringBuilder("(");
        for (Class<?> t : types) {
            text.append(text.length() > 1 ? ", " : "").append(t);
        }
        return text.append(")").toString();
    }

    private static void hiddenMembers() {
        Set<String> publicNames = new TreeSet<>();
        int fields = 0;
        for (Method m : ScoreDesk.class.getDeclaredMethods()) {
            if (Modifier.isPublic(m.getModifiers())) {
                publicNames.add(m.getName());
            }
            holds(m.getParameterCount() <= 7, m.getName() + " has at most seven parameters");
        }
        for (Method m : ScoreDesk.class.getDeclaredMethods()) {
            boolean hidden = Modifier.isPrivate(m.getModifiers());
            holds(!hidden || !publicNames.contains(m.getName()), m.getName() + " is no name of a public method");
        }
        for (Field f : ScoreDesk.class.getDeclaredFields()) {
            if (Modifier.isStatic(f.getModifiers())) {
                boolean number = f.getType() == int.class || f.getType() == long.class;
                holds(number && Modifier.isFinal(f.getModifiers()), f.getName() + " is a constant number");
            } else {
                fields++;
            }
        }
        holds(fields <= 40, "at most forty fields");
    }

    private static String withoutComments(String text) {
        return text.replaceAll("(?s)/\\*.*?\\*/", "").replaceAll("//[^\n]*", "");
    }

    private static void words(String text) {
        String never = "import package throw throws try catch synchronized assert instanceof null float double String "
                + "Math Integer Long System Arrays Object interface enum record var this super static\\s*\\{ -> :: \\[\\]\\s*\\[\\]";
        for (String word : never.split(" ")) {
            String whole = Character.isLetter(word.charAt(0)) && Character.isLetter(word.charAt(word.length() - 1))
                    ? "\\b" + word + "\\b" : word;
            holds(!Pattern.compile(whole).matcher(text).find(), "no " + word + " in the text");
        }
        Matcher made = Pattern.compile("[^\n]*\\bnew\\b[^\n]*").matcher(text);
        while (made.find()) {
            holds(made.group().matches("    private final \\w+\\[\\] \\w+ = new \\w+\\[[A-Z_0-9]+\\];"),
                    "an array is made in a field's initialiser: " + made.group().trim());
        }
    }

    private static void lengths(String text) {
        int start = 0;
        int line = 0;
        for (String t : text.split("\n")) {
            line++;
            if (t.matches("    (public|private)[^;]*\\{")) {
                start = line;
            }
            if (t.equals("    }")) {
                holds(line - start < LONGEST_METHOD, "the method that ends in line " + line + " is short");
            }
        }
    }
}
