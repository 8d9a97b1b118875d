import java.io.IOException;
import java.lang.reflect.Constructor;
import java.lang.reflect.Field;
import java.lang.reflect.Method;
import java.lang.reflect.Modifier;
import java.nio.file.Files;
import java.nio.file.Path;
import java.util.HashSet;
import java.util.List;
import java.util.Set;
import java.util.TreeSet;

/** The class has the document's face and no other, and its source keeps to what LANGUAGE.md leaves. */
public final class FaceTest {
    private static final Check check = new Check("FaceTest");
    private static final List<String> FACE = List.of(
        "int sign(int)", "boolean end(int)", "int teams()", "int side(int,int)", "int kick(boolean)", "int play()",
        "int judge()", "int judged(int)", "int exchange(int,int,int)", "int order(int)", "int first(int)",
        "int turn(int)", "long odds(int,int)", "long matters(int)", "long oddsBy(int,int,int,int)",
        "long unfair(int,int)", "int fairest()", "int toss(int,int)", "long ends(int)", "long score(int,int)",
        "int likely()", "long mean(int)", "int needs(int)", "long oddsOf(int,int,int)", "int best(int)",
        "int climbed(int,int)", "int rests(int)", "int guess(int,int,int,int)", "int drawn(int,int,int)", "int undo()",
        "boolean keep(int)", "boolean again(int)", "int made(int)", "int count(int)");

    public static void main(String[] args) throws IOException {
        members();
        nested();
        source(Files.readString(Path.of("src/main/java/KickOdds.java")));
        check.finish();
    }

    private static void members() {
        Set<String> seen = new TreeSet<>();
        Set<String> names = new HashSet<>();
        for (Method m : KickOdds.class.getDeclaredMethods()) {
            if (Modifier.isPublic(m.getModifiers())) {
                seen.add(signature(m));
                names.add(m.getName());
            }
        }
        check.due("the face " + seen, true, seen.equals(new TreeSet<>(FACE)));
        for (Method m : KickOdds.class.getDeclaredMethods()) {
            boolean open = Modifier.isPublic(m.getModifiers());
            check.due(m + " is private", true, open || Modifier.isPrivate(m.getModifiers()));
            check.due(m + " has its own name", true, open || !names.contains(m.getName()));
        }
        for (Field f : KickOdds.class.getDeclaredFields()) {
            boolean constant = f.getName().equals("NONE") || f.getName().equals("NOTHING");
            check.due(f + " is private", true, constant || Modifier.isPrivate(f.getModifiers()));
            check.due(f + " is no static state", true,
                !Modifier.isStatic(f.getModifiers()) || Modifier.isFinal(f.getModifiers()));
        }
        Constructor<?>[] makers = KickOdds.class.getDeclaredConstructors();
        check.due("one constructor", 1, makers.length);
        check.due("public and final", true, Modifier.isFinal(KickOdds.class.getModifiers())
            && Modifier.isPublic(KickOdds.class.getModifiers()));
    }

    private static String signature(Method m) {
        StringBuilder b = new StringBuilder(m.getReturnType().getName()).append(' ').append(m.getName()).append('(');
        for (int i = 0; i < m.getParameterCount(); i++) {
            b.append(i > 0 ? "," : "").append(m.getParameterTypes()[i].getName());
        }
        return b.append(')').toString();
    }

    private static void nested() {
        Class<?>[] inside = KickOdds.class.getDeclaredClasses();
        check.due("some twelve classes", true, inside.length < 12);
        for (Class<?> c : inside) {
            check.due(c + " is static", true, Modifier.isStatic(c.getModifiers()));
            check.due(c + " is not public", false, Modifier.isPublic(c.getModifiers()));
            int fields = 0;
            for (Field f : c.getDeclaredFields()) {
                fields += Modifier.isStatic(f.getModifiers()) ? 0 : 1;
            }
            check.due(c + " has some twenty fields", true, fields <= 20);
            for (Method m : c.getDeclaredMethods()) {
                check.due(m + " takes at most seven", true, m.getParameterCount() <= 7);
                for (String open : FACE) {
                    check.due(m + " has its own name", false, open.contains(" " + m.getName() + "("));
                }
            }
        }
    }

    private static void source(String text) {
        String[] banned = {"->", "::", "catch", "finally", "synchronized", "assert ", "System.", "Random", "instanceof",
            "Exact(", "lambda", "package ", "double", "float", "transient", "native", "import java.io", "import java.util.*"};
        for (String word : banned) {
            check.due("has no " + word, NONE_FOUND, text.indexOf(word));
        }
        check.due("one throw", 2, text.split("throw new ").length);
        for (String line : text.split("\n")) {
            // rule 12: a constructor hands out nothing of the object that it makes
            check.due("a part is made without the others: " + line, false, line.matches(" +private .*= new [A-Z]\\w*\\(.+\\);"));
        }
        check.due("hands out no this", NONE_FOUND, Math.max(text.indexOf("(this"), text.indexOf(", this")));
        int methodLines = 0;
        for (String line : text.split("\n")) {
            boolean ends = line.matches("    (    )?}");
            methodLines = ends || line.matches("    (    )?[a-z/].*[{]") ? 0 : methodLines + 1;
            check.due("a method of some sixty lines: " + line, true, methodLines <= 60);
        }
    }

    private static final int NONE_FOUND = -1;
}
