import java.lang.reflect.Constructor;
import java.lang.reflect.Field;
import java.lang.reflect.Method;
import java.lang.reflect.Modifier;
import java.util.TreeSet;

/** The public face is the document's, and nothing else of the class can be seen. */
public final class FaceTest {
    private static final String[] FACE = {
        "public boolean KindNumbers.has(int,long)",
        "public boolean KindNumbers.widens(int,int)",
        "public long KindNumbers.cast(int,int,long)",
        "public long KindNumbers.work(int,int,long,int,long)",
        "public long KindNumbers.shift(int,int,long,long)",
        "public int KindNumbers.compare(int,long,int,long)",
        "public int KindNumbers.order(int,long,long)",
        "public int KindNumbers.failed()",
    };

    public static void main(String[] args) {
        TreeSet<String> face = new TreeSet<>(java.util.List.of(FACE));
        TreeSet<String> names = new TreeSet<>();
        for (Method method : KindNumbers.class.getDeclaredMethods()) {
            if (!Modifier.isPrivate(method.getModifiers())) {
                Due.same(method + " is of the face", face.remove(method.toString()), true);
                names.add(method.getName());
            }
        }
        Due.same("methods lacking: " + face, face.size(), 0);
        for (Method method : KindNumbers.class.getDeclaredMethods()) {
            boolean hidden = Modifier.isPrivate(method.getModifiers());
            Due.same(method + " bears a public name", hidden && names.contains(method.getName()), false);
        }
        for (Field field : KindNumbers.class.getDeclaredFields()) {
            Due.same(field + " is private", Modifier.isPrivate(field.getModifiers()), true);
        }
        Constructor<?>[] constructors = KindNumbers.class.getDeclaredConstructors();
        Due.same("constructors", constructors.length, 1);
        Due.same("the constructor", constructors[0].toString().equals("public KindNumbers()"), true);
        int modifiers = KindNumbers.class.getModifiers();
        Due.same("public and final", Modifier.isPublic(modifiers) && Modifier.isFinal(modifiers), true);
        Due.end();
    }
}
