import java.lang.reflect.Constructor;
import java.lang.reflect.Field;
import java.lang.reflect.Method;
import java.lang.reflect.Modifier;
import java.nio.file.Files;
import java.nio.file.Path;
import java.util.Set;
import java.util.TreeSet;
import java.util.regex.Pattern;

// The public face, and those rules of the language that can be seen in the class or in its text.
public final class FaceTests {
    private static final Path SOURCE = Path.of("src/main/java/ScoreDesk.java");
    private static final int LONGEST_METHOD = 60;

    private static int wrong = 0;

    public static void main(String[] args) throws Exception {
        face();
        hiddenMembers();
        String text = withoutComments(Files.readString(SOURCE));
        words(text);
        arrays(text);
        lengths(text);
        System.out.println(wrong == 0 ? "the face and the language are as due" : wrong + " faults");
        if (wrong != 0) {
            System.exit(1);
        }
    }

    private static void holds(boolean so, String what) {
        if (!so) {
            wrong++;
            System.out.println("does not hold: " + what);
        }
    }

    private static void face() {
        Set<String> due = new TreeSet<>(Set.of(
                "int OK", "int LONG", "int BAD", "int FULL", "ScoreDesk()",
                "int add(int, int, int, int)", "int clear()", "boolean units(int, int, int)", "boolean fetch(int, int)",
                "boolean bank(int)", "boolean poke(int, int)", "boolean set(int, int)", "boolean exchange(int)",
                "int run()", "int peek(int)", "int value(int)", "int done()", "int cycles()", "int time(int, int)",
                "int lost(int)", "int busy(int, int)"));
        Set<String> got = new TreeSet<>();
        for (Field f : ScoreDesk.class.getDeclaredFields()) {
            if (!Modifier.isPrivate(f.getModifiers())) {
                got.add(f.getType() + " " + f.getName());
            }
        }
        for (Constructor<?> c : ScoreDesk.class.getDeclaredConstructors()) {
            got.add(c.getName() + types(c.getParameterTypes()));
        }
        for (Method m : ScoreDesk.class.getDeclaredMethods()) {
            if (!Modifier.isPrivate(m.getModifiers())) {
                got.add(m.getReturnType() + " " + m.getName() + types(m.getParameterTypes()));
            }
        }
        holds(got.equals(due), "the face is " + due + ", got " + got);
        holds(Modifier.isPublic(ScoreDesk.class.getModifiers()), "the class is public");
        holds(Modifier.isFinal(ScoreDesk.class.getModifiers()), "the class is final");
        holds(ScoreDesk.class.getDeclaredClasses().length == 0, "no nested class");
    }

    private static String types(Class<?>[] types) {
        StringBuilder text = new StringBuilder("(");
        for (Class<?> t : types) {
            text.append(text.length() > 1 ? ", " : "").append(t);
        }
        return text.append(")").toString();
    }

    private static void hiddenMembers() {
        Set<String> publicNames = new TreeSet<>();
        int fields = 0;
        for (Method m : ScoreDesk.class.getDeclaredMethods()) {
            if (Modifier.isPublic(m.getModifiers())) {
                publicNames.add(m.getName());
            }
            holds(m.getParameterCount() <= 7, m.getName() + " has at most seven parameters");
        }
        for (Method m : ScoreDesk.class.getDeclaredMethods()) {
            boolean hidden = Modifier.isPrivate(m.getModifiers());
            holds(!hidden || !publicNames.contains(m.getName()), m.getName() + " is no name of a public method");
        }
        for (Field f : ScoreDesk.class.getDeclaredFields()) {
            if (Modifier.isStatic(f.getModifiers())) {
                boolean number = f.getType() == int.class || f.getType() == long.class;
                holds(number && Modifier.isFinal(f.getModifiers()), f.getName() + " is a constant number");
            } else {
                fields++;
            }
        }
        holds(fields <= 40, "at most forty fields");
    }

    private static String withoutComments(String text) {
        return text.replaceAll("(?s)/\\*.*?\\*/", "").replaceAll("//[^\n]*", "");
    }

    private static void words(String text) {
        String never = "import package throw throws try catch synchronized assert instanceof null float double String "
                + "Math Integer Long System Arrays Object interface enum static\\s*\\{ :: \\[\\]\\s*\\[\\]";
        for (String word : never.split(" ")) {
            String whole = Character.isLetter(word.charAt(0)) && Character.isLetter(word.charAt(word.length() - 1))
                    ? "\\b" + word + "\\b" : word;
            holds(!Pattern.compile(whole).matcher(text).find(), "no " + word + " in the text");
        }
    }

    /** Every "new" makes an array of numbers with a constant length, in a field's initialiser or in the constructor. */
    private static void arrays(String text) {
        int constructor = text.indexOf("public ScoreDesk(");
        int constructorEnd = constructor + 1;
        for (int depth = 0; constructorEnd < text.length(); constructorEnd++) {
            depth += change(text.charAt(constructorEnd));
            if (depth == 0 && text.charAt(constructorEnd) == '}') {
                break;
            }
        }
        int depth = 0;
        for (int i = 0; i < text.length(); i++) {
            depth += change(text.charAt(i));
            if (text.startsWith("new ", i) && !Character.isJavaIdentifierPart(text.charAt(i - 1))) {
                String made = text.substring(i, text.indexOf('\n', i));
                holds(made.matches("new (int|long|short|byte|char|boolean)\\[[A-Z_0-9 *+-]+\\][,;].*"), "constant length: " + made);
                holds(depth == 1 || i > constructor && i < constructorEnd, "not made in a method: " + made);
            }
        }
    }

    private static int change(char c) {
        return c == '{' ? 1 : c == '}' ? -1 : 0;
    }

    private static void lengths(String text) {
        int start = 0;
        int line = 0;
        for (String t : text.split("\n")) {
            line++;
            if (t.matches("    (public|private)[^;]*\\{")) {
                start = line;
            }
            if (t.equals("    }")) {
                holds(line - start < LONGEST_METHOD, "the method that ends in line " + line + " is short");
            }
        }
    }
}
