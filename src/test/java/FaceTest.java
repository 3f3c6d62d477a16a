import java.lang.reflect.Constructor;
import java.lang.reflect.Field;
import java.lang.reflect.Method;
import java.lang.reflect.Modifier;
import java.util.TreeSet;

/** The face is the document's, and no more (LANGUAGE.md, rules 1 and 5). */
public final class FaceTest {
    private static final String[] FACE = {
        "int lump(int,int,int)", "int set(int,int,int)", "int of(int,int)", "int wash(int,int)", "int go(int)",
        "int grows(int,int)", "int seed(int)", "int weigh(int,int,int,int)", "int hear(int)", "int weighing(int,int)",
        "int out(int,boolean)", "int touches()", "int apart(int,int,int,int)", "int longApart(int,int,int,int,int)",
        "int fits(int)", "int needed()", "int swapped(int,int)", "int stories(int,int,int,int)", "int words(int)",
        "int one()", "int worth(int)", "int moves(int,int)", "int link(int,int,int,int)", "int chain(int,int)",
        "int agree(int,int)", "int wrong(int,int,int)", "int when(int)", "int plan(int,int,int,int)", "int image()",
        "int restore()", "int count(int)", "int keep(int,int,int)", "int row(int,int,int)", "int put(int,int,int)",
        "long element(int,int)", "int copy(int,int,int,int,int)", "int care(int)", "int toss(int)",
    };

    public static void main(String[] args) {
        Class<?> face = KeptLump.class;
        Check.due("public and final", face.getModifiers() & (Modifier.PUBLIC | Modifier.FINAL), Modifier.PUBLIC | Modifier.FINAL);
        Constructor<?>[] made = face.getDeclaredConstructors();
        Check.due("constructors", made.length, 1);
        Check.due("its parameters", made[0].getParameterCount(), 0);
        Check.due("it is public", Modifier.isPublic(made[0].getModifiers()) ? 1 : 0, 1);
        methods(face);
        fields(face);
        for (Class<?> inside : face.getDeclaredClasses()) {
            Check.due(inside + " is static", Modifier.isStatic(inside.getModifiers()) ? 1 : 0, 1);
            Check.due(inside + " is not public", Modifier.isPublic(inside.getModifiers()) ? 1 : 0, 0);
        }
        Check.due("classes inside: some twelve", face.getDeclaredClasses().length <= 12 ? 1 : 0, 1);
        Check.end("FaceTest");
    }

    private static void methods(Class<?> face) {
        TreeSet<String> told = new TreeSet<>();
        TreeSet<String> names = new TreeSet<>();
        for (Method m : face.getDeclaredMethods()) {
            if (!Modifier.isPrivate(m.getModifiers())) {
                StringBuilder form = new StringBuilder(m.getReturnType() + " " + m.getName() + "(");
                for (Class<?> p : m.getParameterTypes()) {
                    form.append(form.charAt(form.length() - 1) == '(' ? "" : ",").append(p);
                }
                told.add(form.append(')').toString());
                names.add(m.getName());
                Check.due(m + " is public", Modifier.isPublic(m.getModifiers()) ? 1 : 0, 1);
            }
        }
        Check.due("the face", told.toString(), new TreeSet<>(java.util.List.of(FACE)).toString());
        privateNames(face, names);
        for (Class<?> inside : face.getDeclaredClasses()) {
            privateNames(inside, names);
        }
    }

    private static void privateNames(Class<?> inside, TreeSet<String> names) {
        for (Method m : inside.getDeclaredMethods()) {
            if (inside != KeptLump.class || Modifier.isPrivate(m.getModifiers())) {
                Check.due(m + " bears a name of its own", names.contains(m.getName()) ? 1 : 0, 0);
            }
        }
    }

    private static void fields(Class<?> face) {
        for (Field f : face.getDeclaredFields()) {
            Check.due(f + " is private", Modifier.isPrivate(f.getModifiers()) ? 1 : 0, 1);
            boolean isConstant = !Modifier.isStatic(f.getModifiers()) || Modifier.isFinal(f.getModifiers());
            Check.due(f + " is no static state", isConstant ? 1 : 0, 1);
        }
    }
}
