import java.lang.reflect.Constructor;
import java.lang.reflect.Field;
import java.lang.reflect.Method;
import java.lang.reflect.Modifier;
import java.util.Arrays;
import java.util.Set;
import java.util.TreeSet;

/** The public face is the document's, with nothing beside it. */
public final class FaceTest {
    private static final String[] FACE = {
        "boolean now(int)", "int person()", "int purse(int,int)", "int thing()",
        "int line(int,int,int,int,int,int,int)",
        "int move(int,int,int,boolean,int,int,int)",
        "int deal(boolean,int,int,int,int,int,int)", "boolean strike(int)",
        "int feed(int,int,int,int,int)", "int rules(int,int,int,int)",
        "boolean knows(int,int,int)", "int left(int,int,int,int)", "int share(int,int,int,int)",
        "int lost(int,int,int,int)", "int part(int,int,int)", "int took(int,int,int)",
        "int way(int,int)", "int fails(int)", "int sure(int,int,int,int)",
        "int beside(int,int,int,int)", "boolean choose(int,int)", "boolean bar(int,int,int,int)",
        "int best(int)", "int chosen(int,int)", "int judge(int,int)", "int debt(int,int,int,int)",
        "int paid(int)", "int check(int)", "int look(int,int)", "int count(int)"};

    public static void main(String[] args) {
        Due due = new Due("FaceTest");
        methods(due);
        constructors(due);
        fields(due);
        classes(due);
        due.end();
    }

    private static void methods(Due due) {
        Set<String> found = new TreeSet<>();
        Set<String> names = new TreeSet<>();
        for (Method m : PurseTrace.class.getDeclaredMethods()) {
            if (!Modifier.isPrivate(m.getModifiers())) {
                StringBuilder types = new StringBuilder();
                for (Class<?> type : m.getParameterTypes()) {
                    types.append(types.length() > 0 ? "," : "").append(type.getSimpleName());
                }
                found.add(m.getReturnType() + " " + m.getName() + "(" + types + ")");
                names.add(m.getName());
                due.is(m + " is public alone", m.getModifiers(), Modifier.PUBLIC);
            }
        }
        Set<String> want = new TreeSet<>(Arrays.asList(FACE));
        due.is("methods " + found, found.equals(want), true);
        for (Class<?> inner : PurseTrace.class.getDeclaredClasses()) {
            hiddenNames(due, inner, names);
        }
        hiddenNames(due, PurseTrace.class, names);
    }

    private static void hiddenNames(Due due, Class<?> c, Set<String> names) {
        for (Method m : c.getDeclaredMethods()) {
            if (!Modifier.isPublic(m.getModifiers())) {
                due.is("hidden " + m, names.contains(m.getName()), false);
            }
        }
    }

    private static void constructors(Due due) {
        Constructor<?>[] all = PurseTrace.class.getDeclaredConstructors();
        due.is("constructors", all.length, 1);
        due.is("it is public", all[0].getModifiers(), Modifier.PUBLIC);
        due.is("it takes nothing", all[0].getParameterCount(), 0);
    }

    private static void fields(Due due) {
        for (Field f : PurseTrace.class.getDeclaredFields()) {
            boolean none = f.getName().equals("NONE");
            due.is(f + " is hidden", Modifier.isPrivate(f.getModifiers()), !none);
            if (Modifier.isStatic(f.getModifiers())) {
                due.is(f + " is final", Modifier.isFinal(f.getModifiers()), true);
            }
        }
    }

    private static void classes(Due due) {
        due.is("final", Modifier.isFinal(PurseTrace.class.getModifiers()), true);
        for (Class<?> c : PurseTrace.class.getDeclaredClasses()) {
            due.is(c + " is static", Modifier.isStatic(c.getModifiers()), true);
            due.is(c + " is hidden", Modifier.isPublic(c.getModifiers()), false);
        }
    }
}
