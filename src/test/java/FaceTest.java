import java.lang.reflect.Constructor;
import java.lang.reflect.Field;
import java.lang.reflect.Method;
import java.lang.reflect.Modifier;
import java.util.Arrays;
import java.util.TreeSet;

/** The public face: all members that the document lists, and no other that is not private. */
public final class FaceTest {
    private static final String[] FACE = {
        "int feed(int,long)", "int read()", "int acre(int,int)", "int road(int,int,int)",
        "int step(int,int)", "int toll(int,int)", "int way(int,int)", "int market(int)",
        "int use(int,int,int,int,int)", "int year(int,int)", "int price(int,int,int)",
        "int tax(int,int)", "long bid(int,int,int)", "int goes(int,int)", "long rent(int)",
        "int comes(int,int)", "int piece(int,int,int,int)", "int bought(int,int,int)",
        "int clears(int,int)", "int rounds(int)", "int ring(int,int)", "long edge(int,int,int)",
        "int out(int)", "int borders()", "int plan(int,int,int,int)", "long gain(int)",
        "int best(int)", "int losers(int)", "int falls(int,int)", "int own(int,int)",
        "int held(int,boolean)", "int hold(int)", "int put(int)", "int judge()", "int image()",
        "int on()", "int count(int)"};

    private static int wrong = 0;

    private static void check(boolean holds, String what) {
        if (!holds) {
            wrong++;
            System.out.println("face: " + what);
        }
    }

    private static String shape(Method m) {
        StringBuilder s = new StringBuilder(m.getReturnType().getName()).append(' ').append(m.getName()).append('(');
        for (int i = 0; i < m.getParameterCount(); i++) {
            s.append(i == 0 ? "" : ",").append(m.getParameterTypes()[i].getName());
        }
        return s.append(')').toString();
    }

    public static void main(String[] args) {
        Class<?> face = MarketRings.class;
        check(Modifier.isPublic(face.getModifiers()) && Modifier.isFinal(face.getModifiers()), "not public and final");
        TreeSet<String> seen = new TreeSet<>();
        TreeSet<String> names = new TreeSet<>();
        for (Method m : face.getDeclaredMethods()) {
            if (Modifier.isPrivate(m.getModifiers())) {
                continue;
            }
            check(Modifier.isPublic(m.getModifiers()) && !Modifier.isStatic(m.getModifiers()), "not public: " + m);
            seen.add(shape(m));
            names.add(m.getName());
        }
        check(seen.equals(new TreeSet<>(Arrays.asList(FACE))), "other methods: " + seen);
        for (Method m : face.getDeclaredMethods()) {
            check(!Modifier.isPrivate(m.getModifiers()) || !names.contains(m.getName()), "private and public: " + m);
        }
        for (Field f : face.getDeclaredFields()) {
            check(Modifier.isPrivate(f.getModifiers()), "a field is not private: " + f);
            check(!Modifier.isStatic(f.getModifiers()) || Modifier.isFinal(f.getModifiers()), "static, not final: " + f);
        }
        Constructor<?>[] made = face.getDeclaredConstructors();
        check(made.length == 1 && made[0].getParameterCount() == 0 && Modifier.isPublic(made[0].getModifiers()),
            "constructors");
        check(face.getDeclaredClasses().length <= 13, "too many classes");
        for (Class<?> inner : face.getDeclaredClasses()) {
            check(Modifier.isStatic(inner.getModifiers()) && !Modifier.isPublic(inner.getModifiers()), "inner: " + inner);
            long fields = Arrays.stream(inner.getDeclaredFields()).filter(f -> !Modifier.isStatic(f.getModifiers())).count();
            check(fields <= 22, "too many fields: " + inner);
            for (Method m : inner.getDeclaredMethods()) {
                check(!Modifier.isPrivate(m.getModifiers()) || !names.contains(m.getName()), "private and public: " + m);
                check(m.getParameterCount() <= 7, "too many parameters: " + m);
            }
        }
        if (wrong != 0) {
            System.exit(1);
        }
    }
}
