import java.lang.reflect.Constructor;
import java.lang.reflect.Field;
import java.lang.reflect.Method;
import java.lang.reflect.Modifier;
import java.util.Arrays;
import java.util.HashSet;
import java.util.Set;
import java.util.TreeSet;

/** The public face is the document's, and nothing else of the class can be seen (LANGUAGE.md, rule 1). */
public final class FaceTest {
    private static final String[] FACE = {
        "int state()", "int act(int,int,int)", "int outcome(int,int,int,int)", "int drop(int)", "int mark(int)",
        "int whole()", "long value(int,boolean,int)", "int choice(int)", "int distance(int)", "long sum(int,int,int)",
        "long within(int,int,boolean,int)", "int bound(int,int)", "int sets(int)", "int reached(int)",
        "long cost(int,int)", "int hole(int,int)", "int twin(int)", "int count(int)", "int look(int,int,int)",
        "int keep(int,int,int,int)", "int make(int,int,int)", "long element(int,int)",
        "int copy(int,int,int,int,int)", "long weight(int)", "long ratio(int,int)"
    };

    public static void main(String[] args) {
        Class<?> type = ChanceCourt.class;
        Due.is("public final", type.getModifiers(), Modifier.PUBLIC | Modifier.FINAL);
        Set<String> seen = new TreeSet<>();
        Set<String> names = new HashSet<>();
        for (Method m : type.getDeclaredMethods()) {
            if (Modifier.isPublic(m.getModifiers())) {
                seen.add(form(m));
                names.add(m.getName());
                boolean throwing = m.getName().equals("element");
                Due.is(m.getName() + " declares its exceptions", m.getExceptionTypes().length, throwing ? 2 : 0);
            } else {
                Due.isTrue(m.getName() + " is private", Modifier.isPrivate(m.getModifiers()));
            }
        }
        Set<String> wanted = new TreeSet<>(Arrays.asList(FACE));
        Due.isTrue("the face is " + seen, seen.equals(wanted));
        for (Field f : type.getDeclaredFields()) {
            Due.isTrue(f.getName() + " is private", Modifier.isPrivate(f.getModifiers()));
        }
        Constructor<?>[] made = type.getDeclaredConstructors();
        Due.is("constructors", made.length, 1);
        Due.isTrue("the constructor is public", Modifier.isPublic(made[0].getModifiers()) && made[0].getParameterCount() == 0);
        for (Class<?> inside : type.getDeclaredClasses()) {
            Due.isTrue(inside.getName() + " is static", Modifier.isStatic(inside.getModifiers()));
            Due.isTrue(inside.getName() + " is not public",
                    (inside.getModifiers() & (Modifier.PUBLIC | Modifier.PROTECTED)) == 0);
            for (Method m : inside.getDeclaredMethods()) {
                Due.isTrue(m.getName() + " bears no name of the face", !names.contains(m.getName()));
            }
        }
        Due.end();
    }

    private static String form(Method m) {
        StringBuilder text = new StringBuilder(m.getReturnType().getName()).append(' ').append(m.getName()).append('(');
        String gap = "";
        for (Class<?> p : m.getParameterTypes()) {
            text.append(gap).append(p.getName());
            gap = ",";
        }
        return text.append(')').toString();
    }
}
