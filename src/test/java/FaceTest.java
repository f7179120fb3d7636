import java.lang.reflect.Constructor;
import java.lang.reflect.Field;
import java.lang.reflect.Method;
import java.lang.reflect.Modifier;
import java.nio.file.Files;
import java.nio.file.Path;
import java.util.Set;
import java.util.TreeSet;
import java.util.regex.Matcher;
import java.util.regex.Pattern;

/** The document's public face, and the rules of LANGUAGE.md that can be seen without reading the program. */
final class FaceTest {
    private static final Set<String> FACE = Set.of("feed(int,int,int,int,int)int", "end(int)boolean", "street()int", "fault(int)int",
            "has(int)int", "letter(int,int,int)int", "person(int,int)int", "lie(int,int)int", "draft(int,int)int", "plan(int,int)int",
            "kept(int,int)int", "later(int,int)int", "held(int,int)int", "out(int)int", "trusted(int,int)int", "shorts(int,int)int",
            "together(int,int)int", "keystone(int,int)int", "change(int,int)int", "odds(int)int", "see()int", "inches(int,int)int",
            "tells(int,int)int", "light(int,int)boolean", "snuff(int)int", "move(int,int)boolean", "buy(int)int", "hours(int)int",
            "chance(int)int", "undo()boolean", "seed(int)boolean", "ask()long", "image()int", "octet(int)int", "on()boolean",
            "status(int)int");

    public static void main(String[] args) throws Exception {
        Due t = new Due();
        t.due("NONE", -1, LieCandles.NONE);
        t.due("NOTHING", -1000000000000000L, LieCandles.NOTHING);
        t.due("public and final", Modifier.PUBLIC | Modifier.FINAL, LieCandles.class.getModifiers());
        Set<String> found = new TreeSet<>();
        Set<String> names = new TreeSet<>();
        for (Method m : LieCandles.class.getDeclaredMethods()) {
            if (Modifier.isPrivate(m.getModifiers())) {
                continue;
            }
            StringBuilder b = new StringBuilder(m.getName()).append('(');
            for (int k = 0; k < m.getParameterCount(); k++) {
                b.append(k > 0 ? "," : "").append(m.getParameterTypes()[k]);
            }
            found.add(b.append(')').append(m.getReturnType()).toString());
            names.add(m.getName());
            t.due(m + " is public", true, Modifier.isPublic(m.getModifiers()));
        }
        t.due("the face", 0, found.equals(FACE) ? 0 : 1);
        for (Constructor<?> c : LieCandles.class.getDeclaredConstructors()) {
            t.due(c + " is public and empty", true, Modifier.isPublic(c.getModifiers()) && c.getParameterCount() == 0);
        }
        for (Field f : LieCandles.class.getDeclaredFields()) {
            boolean told = f.getName().equals("NONE") || f.getName().equals("NOTHING");
            t.due(f + " is private", !told, Modifier.isPrivate(f.getModifiers()));
            t.due(f + " is no static state", true, !Modifier.isStatic(f.getModifiers()) || Modifier.isFinal(f.getModifiers()));
        }
        for (Class<?> c : LieCandles.class.getDeclaredClasses()) {
            t.due(c + " is static", true, Modifier.isStatic(c.getModifiers()));
            t.due(c + " has few fields", true, c.getDeclaredFields().length <= 20);
            for (Method m : c.getDeclaredMethods()) {
                t.due(m + " bears a name of its own", false, names.contains(m.getName()));
                t.due(m + " takes seven at most", true, m.getParameterCount() <= 7);
            }
        }
        t.due("classes", true, LieCandles.class.getDeclaredClasses().length <= 12);
        source(t);
        t.close();
    }

    private static void source(Due t) throws Exception {
        String text = Files.readString(Path.of("src/main/java/LieCandles.java"));
        String code = text.replaceAll("(?s)/\\*.*?\\*/", "").replaceAll("//[^\n]*", "").replaceAll("\"[^\"\n]*\"", "\"\"");
        Matcher never = Pattern.compile("\\b(throw|throws|try|catch|synchronized|assert|import|package|\\w+Exact|null)\\b|->|::").matcher(code);
        while (never.find()) {
            t.due("found " + never.group() + " in the source", 0, 1);
        }
        t.due("signs 1 to 127 alone", true, text.chars().allMatch(c -> c >= 1 && c <= 127));
    }
}
