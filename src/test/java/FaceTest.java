import java.lang.reflect.Constructor;
import java.lang.reflect.Field;
import java.lang.reflect.Method;
import java.lang.reflect.Modifier;
import java.util.Arrays;
import java.util.Set;
import java.util.TreeSet;

/** The class shows the document's face and nothing more (rule 1 of LANGUAGE.md). */
public final class FaceTest {
    public static void main(String[] args) throws Exception {
        Class<?> c = ParityVolume.class;
        Kit.due("public final", Modifier.isPublic(c.getModifiers()) && Modifier.isFinal(c.getModifiers()), true);
        Set<String> want = new TreeSet<>(Arrays.asList("BAD -1", "FULL -2", "NOTHING -3", "LOST -4", "WRONG -5",
                "int type(long,int)", "int file(int)", "boolean damage(int,int,int)", "boolean shorten(int,int)",
                "int protect(int)", "int volume()", "int byteAt(int)", "boolean alter(int,int)",
                "boolean cut(int,int)", "int scan()", "int verify()", "int repair()", "int length(int)",
                "int at(int,int)", "new()"));
        Set<String> got = new TreeSet<>();
        Set<String> publicNames = new TreeSet<>();
        for (Method m : c.getDeclaredMethods()) {
            if (!Modifier.isPrivate(m.getModifiers())) {
                got.add(m.getReturnType() + " " + m.getName() + parameters(m.getParameterTypes()));
                publicNames.add(m.getName());
            }
        }
        for (Constructor<?> k : c.getDeclaredConstructors()) {
            got.add("new" + parameters(k.getParameterTypes()));
        }
        for (Field f : c.getDeclaredFields()) {
            if (!Modifier.isPrivate(f.getModifiers())) {
                got.add(f.getName() + " " + f.getInt(null));
            }
            if (Modifier.isStatic(f.getModifiers())) {
                Kit.due(f.getName() + " final", Modifier.isFinal(f.getModifiers()), true);
            }
        }
        if (!got.equals(want)) {
            System.out.println("the face is " + got);
        }
        Kit.due("face", got.equals(want), true);
        for (Method m : c.getDeclaredMethods()) {
            if (Modifier.isPrivate(m.getModifiers())) {
                Kit.due("a private " + m.getName(), publicNames.contains(m.getName()), false);
            }
        }
        for (Class<?> inside : c.getDeclaredClasses()) {
            int mods = inside.getModifiers();
            Kit.due(inside.getName() + " static and not shown",
                    Modifier.isStatic(mods) && !Modifier.isPublic(mods) && !Modifier.isProtected(mods), true);
        }
        Kit.finish();
    }

    private static String parameters(Class<?>[] types) {
        StringBuilder b = new StringBuilder("(");
        for (int i = 0; i < types.length; i++) {
            b.append(i == 0 ? "" : ",").append(types[i].getName());
        }
        return b.append(")").toString();
    }
}
