import java.lang.reflect.Constructor;
import java.lang.reflect.Field;
import java.lang.reflect.Method;
import java.lang.reflect.Modifier;
import java.nio.file.Files;
import java.nio.file.Path;
import java.util.Set;
import java.util.TreeSet;
import java.util.regex.Matcher;
import java.util.regex.Pattern;

/** The public face, and what ../shared/LANGUAGE.md rules out as far as a text search can see it. */
public final class FaceTest extends Checks {
    private static final String FACE = "foam(int,int,int) bubbleIs(int,int) as(int,int) become(int,int) "
        + "fill(int,int,int) ring(int,int) beside(int,int) end(int,int,int) can(int,int,int) turn(int,int) "
        + "vanish(int) burst(int,int) feed(long,int) text(int) untell(int) rule(int,int) passes(int,int) tick(int) "
        + "stands(int,int) seed(int) all(int) pace(int) sides(int) around(int) first(int) way(int,int) "
        + "colour(int,int) apart(int) marked(int) voice(int,int,int) body(int) sheet(int,int,int) put(int,int,int) "
        + "move(int,int,int,int,int) gases(int) image() restore() tell(int) check(int) count(int) told(int)";

    private static void due(boolean so, String what) {
        if (!so) {
            wrong(what);
        }
    }

    public static void main(String[] args) throws Exception {
        methods();
        othersAreHidden();
        source();
        end();
    }

    private static void methods() {
        Set<String> due = new TreeSet<>(Set.of(FACE.split(" ")));
        Set<String> names = new TreeSet<>();
        for (String one : due) {
            names.add(one.substring(0, one.indexOf('(')));
        }
        Set<String> seen = new TreeSet<>();
        for (Method m : FoamHead.class.getDeclaredMethods()) {
            StringBuilder text = new StringBuilder(m.getName()).append('(');
            for (int i = 0; i < m.getParameterCount(); i++) {
                text.append(i == 0 ? "" : ",").append(m.getParameterTypes()[i]);
            }
            text.append(')');
            if (Modifier.isPrivate(m.getModifiers())) {
                due(!names.contains(m.getName()), "private " + text + " bears a public name");
            } else {
                seen.add(text.toString());
                due(m.getModifiers() == Modifier.PUBLIC, "not just public: " + text);
                due(m.getReturnType() == int.class, "not an int: " + text);
            }
        }
        due(seen.equals(due), "the face is " + seen + ", due is " + due);
        for (Class<?> inside : FoamHead.class.getDeclaredClasses()) {
            for (Method m : inside.getDeclaredMethods()) {
                due(!names.contains(m.getName()), inside + " has a method with a public name: " + m.getName());
            }
        }
    }

    private static void othersAreHidden() {
        due(Modifier.isFinal(FoamHead.class.getModifiers()), "FoamHead is not final");
        Constructor<?>[] made = FoamHead.class.getDeclaredConstructors();
        due(made.length == 1 && made[0].getModifiers() == Modifier.PUBLIC && made[0].getParameterCount() == 0,
            "not one plain constructor");
        for (Field f : FoamHead.class.getDeclaredFields()) {
            due(Modifier.isPrivate(f.getModifiers()), "seen from outside: " + f);
        }
        due(FoamHead.class.getDeclaredClasses().length <= 11, "too many classes");
        for (Class<?> inside : FoamHead.class.getDeclaredClasses()) {
            due(Modifier.isPrivate(inside.getModifiers()) && Modifier.isStatic(inside.getModifiers()),
                "not private and static: " + inside);
            int fields = 0;
            for (Field f : inside.getDeclaredFields()) {
                fields += Modifier.isStatic(f.getModifiers()) ? 0 : 1;
                due(!Modifier.isStatic(f.getModifiers()) || Modifier.isFinal(f.getModifiers()), "not final: " + f);
            }
            due(fields <= 20, "too many fields: " + inside);
        }
    }

    private static void source() throws Exception {
        String text = Files.readString(Path.of("src/main/java/FoamHead.java"));
        text = text.replaceAll("(?s)/\\*.*?\\*/", "").replaceAll("//[^\n]*", "");
        String[] never = {"\\bthrow", "\\btry\\b", "\\bcatch\\b", "\\bassert\\b", "\\bsynchronized\\b", "->", "::",
            "\\bpackage\\b", "\\bnew Random", "System\\.(?!arraycopy)", "\\bdouble\\b", "\\bfloat\\b", "\\bvar\\b",
            "Exact\\(", "toString", "hashCode", "equals\\(", "import (?!java\\.util\\.Arrays;)", "\"\\s*\\+", "\\+\\s*\""};
        for (String one : never) {
            Matcher found = Pattern.compile(one).matcher(text);
            due(!found.find(), "the source has " + one);
        }
    }
}
