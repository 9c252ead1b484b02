import java.lang.reflect.Constructor;
import java.lang.reflect.Field;
import java.lang.reflect.Method;
import java.lang.reflect.Modifier;
import java.util.Arrays;
import java.util.Set;
import java.util.TreeSet;

/** The document's public face, and nothing beside it. */
public final class FaceTest {
    private static final String[] FACE = {
        "public FractionDesk()",
        "public static final int FractionDesk.NONE",
        "public boolean FractionDesk.feed(int,int,int,int,int)",
        "public boolean FractionDesk.end(int)",
        "public int FractionDesk.read(int)",
        "public int FractionDesk.set(int,long)",
        "public int FractionDesk.reckon(int,int,int,int)",
        "public int FractionDesk.round(int,int,int)",
        "public int FractionDesk.compare(int,int)",
        "public int FractionDesk.write(int,int)",
        "public int FractionDesk.textAt(int) throws java.util.NoSuchElementException",
        "public int FractionDesk.bits(int)",
        "public boolean FractionDesk.isInteger(int)",
    };

    public static void main(String[] args) {
        Class<?> desk = FractionDesk.class;
        Set<String> members = new TreeSet<>();
        for (Constructor<?> constructor : desk.getDeclaredConstructors()) {
            members.add(constructor.toGenericString());
        }
        for (Field field : desk.getDeclaredFields()) {
            addUnlessPrivate(members, field.getModifiers(), field.toGenericString());
            Due.is(field + " is no static state", true, isNoStaticState(field));
        }
        for (Method method : desk.getDeclaredMethods()) {
            addUnlessPrivate(members, method.getModifiers(), method.toGenericString());
        }
        Due.is("the face", new TreeSet<>(Arrays.asList(FACE)).toString(), members.toString());
        Due.is("public and final", Modifier.PUBLIC | Modifier.FINAL, desk.getModifiers());
        for (Class<?> inside : desk.getDeclaredClasses()) {
            insideIsHidden(inside);
        }
        Due.finish();
    }

    private static void addUnlessPrivate(Set<String> members, int modifiers, String member) {
        if (!Modifier.isPrivate(modifiers)) {
            members.add(member);
        }
    }

    private static boolean isNoStaticState(Field field) {
        return !Modifier.isStatic(field.getModifiers()) || Modifier.isFinal(field.getModifiers());
    }

    private static void insideIsHidden(Class<?> inside) {
        int modifiers = inside.getModifiers();
        Due.is(inside + " is static", true, Modifier.isStatic(modifiers));
        Due.is(inside + " is hidden", false, Modifier.isPublic(modifiers) || Modifier.isProtected(modifiers));
        for (Field field : inside.getDeclaredFields()) {
            Due.is(field + " is no static state", true, isNoStaticState(field));
        }
    }
}
