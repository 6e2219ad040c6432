import java.lang.reflect.Constructor;
import java.lang.reflect.Field;
import java.lang.reflect.Method;
import java.lang.reflect.Modifier;
import java.util.Set;
import java.util.TreeSet;

/** The face of the class, and rule 1 of LANGUAGE.md. */
public final class FaceTest {
    private static final String[] FACE = {
        "boolean begin()", "boolean chip(int,int)", "boolean off()", "boolean power(int,int)", "int abort()",
        "int after()", "int at(int,int)", "int bump(int)", "int commit()", "int costs(int)", "int count(int)",
        "int drop(int)", "int entry(int,int,int)", "int hand()", "int length(int)", "int on()",
        "int rot(int,int,int)", "int sector(int,int)", "int set(int,int,int)", "int space(int,int)",
        "int until(int)", "int wear(int)", "int wears(int,int)", "long get(int)", "long history(int,int)",
        "long tags()", "long torn(int,int,int,int,int,int)"};

    public static void main(String[] args) {
        Set<String> want = new TreeSet<>(Set.of(FACE));
        Set<String> got = new TreeSet<>();
        Set<String> names = new TreeSet<>();
        for (Method m : SettingStore.class.getDeclaredMethods()) {
            if (Modifier.isPublic(m.getModifiers())) {
                got.add(told(m));
                names.add(m.getName());
            }
        }
        if (!want.equals(got)) {
            System.out.println("the face is " + got);
        }
        Check.due("the face", want.equals(got), true);
        Check.due("final", Modifier.isFinal(SettingStore.class.getModifiers()), true);
        Check.due("public", Modifier.isPublic(SettingStore.class.getModifiers()), true);
        Constructor<?>[] made = SettingStore.class.getDeclaredConstructors();
        Check.due("constructors", made.length, 1);
        Check.due("its parameters", made[0].getParameterCount(), 0);
        fields();
        hidden(names);
        Check.due("NONE", SettingStore.NONE, -1);
        Check.due("NOTHING", SettingStore.NOTHING, -4);
        Check.finish("FaceTest");
    }

    private static String told(Method m) {
        StringBuilder text = new StringBuilder(m.getReturnType() + " " + m.getName() + "(");
        for (int i = 0; i < m.getParameterCount(); i++) {
            text.append(i == 0 ? "" : ",").append(m.getParameterTypes()[i]);
        }
        return text.append(")").toString();
    }

    private static void fields() {
        for (Field f : SettingStore.class.getDeclaredFields()) {
            boolean face = f.getName().equals("NONE") || f.getName().equals("NOTHING");
            Check.due("public: " + f.getName(), Modifier.isPublic(f.getModifiers()), face);
            Check.due("private: " + f.getName(), Modifier.isPrivate(f.getModifiers()), !face);
        }
    }

    private static void hidden(Set<String> names) {
        for (Method m : SettingStore.class.getDeclaredMethods()) {
            if (!Modifier.isPublic(m.getModifiers())) {
                Check.due("private: " + m.getName(), Modifier.isPrivate(m.getModifiers()), true);
                Check.due("bears a public name: " + m.getName(), names.contains(m.getName()), false);
            }
        }
        for (Class<?> inside : SettingStore.class.getDeclaredClasses()) {
            Check.due("static: " + inside.getName(), Modifier.isStatic(inside.getModifiers()), true);
            for (Method m : inside.getDeclaredMethods()) {
                Check.due("bears a public name: " + m.getName(), names.contains(m.getName()), false);
            }
        }
    }
}
