import java.lang.reflect.Constructor;
import java.lang.reflect.Field;
import java.lang.reflect.Method;
import java.lang.reflect.Modifier;
import java.util.Set;
import java.util.TreeSet;

/** The public face is the document's and no more (LANGUAGE.md, rule 1). */
public final class FaceTest {
    private static final String[] FACE = {
        "void clear()", "boolean put(int,int,long)", "boolean bss(int)", "boolean align(int,int)",
        "boolean start(int)", "boolean letter(int)", "int symbol(int,int,int,int,int)",
        "int relocation(int,int,int,int,int)", "int write()", "int size()", "int byteAt(int)",
        "boolean feed(int,long)", "boolean cut(int)", "int spoil(int,int)", "int read()", "int place()",
        "void keep()", "int section(int,int)", "int at(int,int)", "int count(int)", "int startAt(int)",
        "int symbolAt(int,int)", "int relocationAt(int,int)",
    };

    public static void main(String[] args) throws Exception {
        Check check = new Check();
        Set<String> found = new TreeSet<>();
        Set<String> publicNames = new TreeSet<>();
        for (Method m : ObjectFile.class.getDeclaredMethods()) {
            if (Modifier.isPublic(m.getModifiers())) {
                found.add(describe(m));
                publicNames.add(m.getName());
                check.that(!Modifier.isStatic(m.getModifiers()), m.getName() + " is not static");
            }
        }
        check.that(found.equals(new TreeSet<>(Set.of(FACE))), "the public methods are those of the document: " + found);
        check.due("the class's modifiers", ObjectFile.class.getModifiers(), Modifier.PUBLIC | Modifier.FINAL);
        for (Constructor<?> c : ObjectFile.class.getDeclaredConstructors()) {
            check.that(Modifier.isPublic(c.getModifiers()) && c.getParameterCount() == 0, "the constructor is the document's");
        }
        noOtherMember(check, publicNames);
        check.due("NONE", ObjectFile.NONE, -1);
        check.end();
    }

    private static void noOtherMember(Check check, Set<String> publicNames) {
        for (Method m : ObjectFile.class.getDeclaredMethods()) {
            int mods = m.getModifiers();
            check.that(Modifier.isPublic(mods) || Modifier.isPrivate(mods), m.getName() + " is public or private");
            check.that(Modifier.isPublic(mods) || !publicNames.contains(m.getName()), m.getName() + " is no public method's name");
        }
        for (Field f : ObjectFile.class.getDeclaredFields()) {
            boolean none = f.getName().equals("NONE");
            check.that(none ? Modifier.isPublic(f.getModifiers()) : Modifier.isPrivate(f.getModifiers()), "field " + f.getName());
            check.that(!Modifier.isStatic(f.getModifiers()) || Modifier.isFinal(f.getModifiers()), f.getName() + " is final");
        }
        for (Class<?> c : ObjectFile.class.getDeclaredClasses()) {
            check.that(Modifier.isStatic(c.getModifiers()) && !Modifier.isPublic(c.getModifiers()), c.getName() + " is static");
            for (Method m : c.getDeclaredMethods()) {
                check.that(!publicNames.contains(m.getName()), m.getName() + " is no public method's name");
            }
        }
    }

    private static String describe(Method m) {
        StringBuilder text = new StringBuilder(m.getReturnType().getName());
        text.append(' ').append(m.getName()).append('(');
        String comma = "";
        for (Class<?> type : m.getParameterTypes()) {
            text.append(comma).append(type.getName());
            comma = ",";
        }
        return text.append(')').toString();
    }
}
