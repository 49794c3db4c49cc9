import java.lang.reflect.Constructor;
import java.lang.reflect.Field;
import java.lang.reflect.Method;
import java.lang.reflect.Modifier;
import java.util.Arrays;
import java.util.TreeSet;

/** The public face: every constant, constructor and method of the document, and nothing else. */
public final class FaceTest {
    private static final String[] FACE = {
        "public static final int GrantKernel.NONE",
        "public GrantKernel(int)",
        "public boolean GrantKernel.poke(int,int)",
        "public int GrantKernel.peek(int)",
        "public int GrantKernel.spawn(int,int,int)",
        "public boolean GrantKernel.put(int,int,int)",
        "public boolean GrantKernel.give(int,int,int,int,int)",
        "public boolean GrantKernel.reap(int)",
        "public int GrantKernel.step(int)",
        "public int GrantKernel.state(int)",
        "public int GrantKernel.fault(int)",
        "public int GrantKernel.register(int,int)",
        "public int GrantKernel.counter(int)",
        "public int GrantKernel.caller(int)",
        "public int GrantKernel.capability(int,int,int)",
        "public int GrantKernel.descendants(int,int)",
        "public int GrantKernel.inRow(int,int)",
        "public int GrantKernel.printed()",
        "public int GrantKernel.print(int)",
    };

    public static void main(String[] args) {
        Check check = new Check("FaceTest");
        TreeSet<String> seen = new TreeSet<>();
        TreeSet<String> publicNames = new TreeSet<>();
        for (Field field : GrantKernel.class.getDeclaredFields()) {
            if (!Modifier.isPrivate(field.getModifiers())) {
                seen.add(field.toString());
            }
        }
        for (Constructor<?> constructor : GrantKernel.class.getDeclaredConstructors()) {
            seen.add(constructor.toString());
        }
        for (Method method : GrantKernel.class.getDeclaredMethods()) {
            if (!Modifier.isPrivate(method.getModifiers())) {
                seen.add(method.toString());
                publicNames.add(method.getName());
            }
        }
        check.due("the face", seen.toString(), new TreeSet<>(Arrays.asList(FACE)).toString());
        check.due("the class's modifiers", GrantKernel.class.getModifiers(), Modifier.PUBLIC | Modifier.FINAL);
        for (Method method : GrantKernel.class.getDeclaredMethods()) {
            if (Modifier.isPrivate(method.getModifiers())) {
                check.due("a private method named " + method.getName(), publicNames.contains(method.getName()), false);
            }
        }
        for (Class<?> inside : GrantKernel.class.getDeclaredClasses()) {
            check.due("static " + inside, Modifier.isStatic(inside.getModifiers()), true);
        }
        check.due("NONE", GrantKernel.NONE, -1);
        check.finish();
    }
}
