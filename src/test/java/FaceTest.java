import java.lang.reflect.Constructor;
import java.lang.reflect.Field;
import java.lang.reflect.Method;
import java.lang.reflect.Modifier;
import java.util.Set;
import java.util.TreeSet;

/** The public face of the document, and rule 1 of LANGUAGE.md: nothing else can be seen. */
public final class FaceTest {
    private static final Set<String> METHODS = Set.of(
        "int letter(int)", "int blank()", "int fault()", "int town()", "int victim(int,int)",
        "int convict(int,int,int,int)", "int about(int,int)", "int as(int,int)", "int say(int,int)",
        "int learn(int,int)", "int night()", "int most(int)", "int who(int,int)",
        "int trial(int,int,boolean)", "int forget()", "int truths(int,int)", "int attempt(int)",
        "int weeks(int,int,int)", "int image()", "int restore()", "int count(int)", "long digest()");

    private static final Due d = new Due();

    public static void main(String[] args) {
        d.that("the class is public and final", KindWords.class.getModifiers() == (Modifier.PUBLIC | Modifier.FINAL));
        d.that("it has no package", KindWords.class.getPackageName().isEmpty());
        constants();
        constructor();
        methods();
        classesInside();
        d.end();
    }

    private static void constants() {
        d.due(1, "NONE", KindWords.NONE, -1);
        d.due(1, "UNKNOWN", KindWords.UNKNOWN, -101);
        d.due(1, "OUTSIDE", KindWords.OUTSIDE, -102);
        d.due(1, "STATE", KindWords.STATE, -103);
        d.due(1, "FULL", KindWords.FULL, -104);
        Set<String> names = new TreeSet<>();
        for (Field f : KindWords.class.getDeclaredFields()) {
            if (Modifier.isPrivate(f.getModifiers())) {
                d.that(f + " is static and not final", !Modifier.isStatic(f.getModifiers())
                    || Modifier.isFinal(f.getModifiers()));
            } else {
                names.add(f.toString());
            }
        }
        Set<String> due = new TreeSet<>();
        for (String name : new String[] {"NONE", "UNKNOWN", "OUTSIDE", "STATE", "FULL"}) {
            due.add("public static final int KindWords." + name);
        }
        d.that("the constants are " + names, names.equals(due));
    }

    private static void constructor() {
        Constructor<?>[] all = KindWords.class.getDeclaredConstructors();
        d.that("one public constructor, without arguments", all.length == 1 && all[0].getParameterCount() == 0
            && Modifier.isPublic(all[0].getModifiers()));
    }

    private static void methods() {
        Set<String> seen = new TreeSet<>();
        Set<String> names = new TreeSet<>();
        for (Method m : KindWords.class.getDeclaredMethods()) {
            if (!Modifier.isPrivate(m.getModifiers())) {
                d.that(m + " is public and no more", m.getModifiers() == Modifier.PUBLIC);
                seen.add(m.toString().replace("public ", "").replace("KindWords.", ""));
                names.add(m.getName());
            }
        }
        d.that("the methods are " + seen, seen.equals(new TreeSet<>(METHODS)));
        for (Method m : KindWords.class.getDeclaredMethods()) {
            d.that(m + " has a public one's name", !Modifier.isPrivate(m.getModifiers()) || !names.contains(m.getName()));
        }
    }

    private static void classesInside() {
        Class<?>[] inside = KindWords.class.getDeclaredClasses();
        d.that("too many classes", inside.length < 12);
        for (Class<?> c : inside) {
            d.that(c + " is not static", Modifier.isStatic(c.getModifiers()));
            d.that(c + " is seen from outside", !Modifier.isPublic(c.getModifiers())
                && !Modifier.isProtected(c.getModifiers()));
            d.that(c + " has too many fields", c.getDeclaredFields().length <= 20);
        }
    }
}
