import java.lang.reflect.Constructor;
import java.lang.reflect.Field;
import java.lang.reflect.Member;
import java.lang.reflect.Method;
import java.lang.reflect.Modifier;
import java.util.Set;
import java.util.TreeSet;

/** The face of the class: what the document tells and no other member that is not private. */
public final class FaceTest {
    private static final String[] FACE = {
        "int land(int)", "int miles(int,int,int)", "int far(int,int)", "int letters(long)", "int blank()", "int good()",
        "int block()", "int about(int,int)", "int goes(int,int)", "int way(int,int,int)", "int lost()",
        "int train(int,int,int,int,int,int)", "int wagon(int,int)", "int sorting(int)", "int close(int,int,int)",
        "int pass(int)", "int wagonIs(int,int)", "int trainIs(int,int)", "int yard(int,int)", "int rest(int)",
        "int crews(int)", "int drive()", "int roll(int)", "int number(int)", "int steps(int)", "int stands(int,int,int)",
        "int load(int,int,int)", "int tracks(int,int)", "int price(int,int)", "int cost(long)", "long net(int)",
        "int empties(int,int,int)", "int least()", "int leg(int,int)", "int stay()", "long share(int,int)",
        "int promise(int)", "int change(int,int)", "int count(int)", "long digest()"};
    private static final Check check = new Check("FaceTest");

    public static void main(String[] args) throws ReflectiveOperationException {
        Set<String> seen = new TreeSet<>();
        Set<String> names = new TreeSet<>();
        for (Method m : WagonWays.class.getDeclaredMethods()) {
            if (!Modifier.isPrivate(m.getModifiers())) {
                seen.add(told(m));
                names.add(m.getName());
                check.isTrue(m + " is public", Modifier.isPublic(m.getModifiers()));
                check.isTrue(m + " is of an object", !Modifier.isStatic(m.getModifiers()));
            }
        }
        Set<String> want = new TreeSet<>(Set.of(FACE));
        check.isTrue("the methods " + seen, seen.equals(want));
        for (Class<?> c : WagonWays.class.getDeclaredClasses()) {
            check.isTrue(c + " is static", Modifier.isStatic(c.getModifiers()));
            check.isTrue(c + " is not public", !Modifier.isPublic(c.getModifiers()) && !Modifier.isProtected(c.getModifiers()));
            noneNamedAsTheFace(c, names);
        }
        constants();
        Constructor<?>[] made = WagonWays.class.getDeclaredConstructors();
        check.due("constructors", made.length, 1);
        check.isTrue("public and without parameters",
            Modifier.isPublic(made[0].getModifiers()) && made[0].getParameterCount() == 0);
        check.isTrue("public and final",
            Modifier.isPublic(WagonWays.class.getModifiers()) && Modifier.isFinal(WagonWays.class.getModifiers()));
        check.end();
    }

    private static void noneNamedAsTheFace(Class<?> c, Set<String> names) {
        for (Method m : c.getDeclaredMethods()) {
            check.isTrue(m + " bears no name of the face", !names.contains(m.getName()));
        }
    }

    private static void constants() throws ReflectiveOperationException {
        Set<String> open = new TreeSet<>();
        for (Field f : WagonWays.class.getDeclaredFields()) {
            if (!Modifier.isPrivate(f.getModifiers())) {
                open.add(f.getName());
                check.isTrue(f + " is constant", isConstant(f));
            }
        }
        check.isTrue("constants " + open, open.equals(Set.of("NONE", "UNKNOWN", "OUTSIDE", "STATE", "FULL")));
        check.due("NONE", WagonWays.NONE, -1);
        check.due("UNKNOWN", WagonWays.UNKNOWN, -101);
        check.due("OUTSIDE", WagonWays.OUTSIDE, -102);
        check.due("STATE", WagonWays.STATE, -103);
        check.due("FULL", WagonWays.FULL, -104);
    }

    private static boolean isConstant(Member m) {
        int is = m.getModifiers();
        return Modifier.isPublic(is) && Modifier.isStatic(is) && Modifier.isFinal(is);
    }

    private static String told(Method m) {
        StringBuilder text = new StringBuilder(m.getReturnType() + " " + m.getName() + "(");
        Class<?>[] types = m.getParameterTypes();
        for (int i = 0; i < types.length; i++) {
            text.append(i > 0 ? "," : "").append(types[i]);
        }
        return text.append(")").toString();
    }
}
