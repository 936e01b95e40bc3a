import java.lang.reflect.Constructor;
import java.lang.reflect.Field;
import java.lang.reflect.Method;
import java.lang.reflect.Modifier;
import java.util.ArrayList;
import java.util.List;
import java.util.Map;
import java.util.Set;
import java.util.TreeSet;

/** The document's public face, and what LANGUAGE.md says of it, as it is seen from outside; RulesTest reads the file. */
public final class LanguageTest {
    private static final String FACE = "barrel(int,int,int) sets(int,int) gap(int,int) side(int) ticks(int,int) "
            + "note(int,int,int,int) drop(int,int) shift(int,int) tune(int,int) noteOf(int,int,int) pins(int) off(int) "
            + "fits(int) settles() pin(int,int,int) why(int) all(int) bridge(int,int) free(int) plays(int,int) mends(int) "
            + "heard(int,int) tells(int,int) wrong(int) type(int) clear() reads() back() told(int) digest()";

    public static void main(String[] args) throws IllegalAccessException {
        face();
        constants();
        membersArePrivate();
        classesInside();
        Check.end();
    }

    private static void face() {
        Set<String> found = new TreeSet<>();
        for (Method m : OrganBarrel.class.getDeclaredMethods()) {
            if (Modifier.isPublic(m.getModifiers())) {
                List<String> types = new ArrayList<>();
                for (Class<?> type : m.getParameterTypes()) {
                    types.add(type.getName());
                }
                found.add(m.getName() + "(" + String.join(",", types) + ")");
                Check.that(m.getName() + " answers as told",
                        m.getReturnType() == (m.getName().equals("digest") ? long.class : int.class));
            }
        }
        Check.that("the face is the document's: " + found, found.equals(new TreeSet<>(List.of(FACE.split(" ")))));
        Check.that("public and final", Modifier.isPublic(OrganBarrel.class.getModifiers())
                && Modifier.isFinal(OrganBarrel.class.getModifiers()));
        Constructor<?>[] made = OrganBarrel.class.getDeclaredConstructors();
        Check.that("one public constructor", made.length == 1 && Modifier.isPublic(made[0].getModifiers())
                && made[0].getParameterCount() == 0);
    }

    private static void constants() throws IllegalAccessException {
        Map<String, Integer> due = Map.of("NONE", -1, "BAD", -2, "NO", -3, "FULL", -4);
        Set<String> found = new TreeSet<>();
        for (Field f : OrganBarrel.class.getDeclaredFields()) {
            if (Modifier.isPublic(f.getModifiers())) {
                found.add(f.getName());
                Check.that(f.getName() + " is a constant int", f.getType() == int.class && Modifier.isStatic(f.getModifiers())
                        && Modifier.isFinal(f.getModifiers()));
                Check.due(f.getName(), f.getInt(null), due.getOrDefault(f.getName(), 0));
            }
        }
        Check.that("the constants are the document's: " + found, found.equals(due.keySet()));
    }

    private static void membersArePrivate() {
        Set<String> constants = Set.of("NONE", "BAD", "NO", "FULL");
        for (Field f : OrganBarrel.class.getDeclaredFields()) {
            Check.that(f.getName() + " is seen as told", Modifier.isPublic(f.getModifiers()) == constants.contains(f.getName())
                    && (Modifier.isPublic(f.getModifiers()) || Modifier.isPrivate(f.getModifiers())));
        }
        for (Method m : OrganBarrel.class.getDeclaredMethods()) {
            Check.that(m.getName() + " is public or private",
                    Modifier.isPublic(m.getModifiers()) || Modifier.isPrivate(m.getModifiers()));
        }
    }

    private static void classesInside() {
        Set<String> names = new TreeSet<>();
        for (String call : FACE.split(" ")) {
            names.add(call.substring(0, call.indexOf('(')));
        }
        Class<?>[] inside = OrganBarrel.class.getDeclaredClasses();
        Check.that("at most twelve classes", inside.length < 12);
        for (Class<?> c : inside) {
            Check.that(c + " is static", Modifier.isStatic(c.getModifiers()));
            Check.that(c + " is not public", !Modifier.isPublic(c.getModifiers()) && !Modifier.isProtected(c.getModifiers()));
            for (Method m : c.getDeclaredMethods()) {
                Check.that(m + " has a name of its own", !names.contains(m.getName()));
            }
            fewFields(c);
            fewParameters(c);
        }
        fewFields(OrganBarrel.class);
        fewParameters(OrganBarrel.class);
    }

    private static void fewFields(Class<?> c) {
        int fields = 0;
        for (Field f : c.getDeclaredFields()) {
            if (Modifier.isStatic(f.getModifiers())) {
                Check.that(f + " is final", Modifier.isFinal(f.getModifiers()));
            } else {
                fields++;
            }
        }
        Check.that(c + " has at most twenty fields", fields <= 20);
    }

    private static void fewParameters(Class<?> c) {
        for (Method m : c.getDeclaredMethods()) {
            Check.that(m + " takes at most seven", m.getParameterCount() <= 7);
        }
    }
}
