import java.lang.reflect.Constructor;
import java.lang.reflect.Field;
import java.lang.reflect.Member;
import java.lang.reflect.Method;
import java.lang.reflect.Modifier;
import java.util.Set;
import java.util.TreeSet;

/** The members that can be seen from outside are those of the document's face and no others. */
public final class KernelDeskFace {
    private static final String[] FACE = {
        "public static final int KernelDesk.BAD",
        "public static final int KernelDesk.FULL",
        "public KernelDesk()",
        "public boolean KernelDesk.put(int,int)",
        "public boolean KernelDesk.take(int,int)",
        "public boolean KernelDesk.clear(int)",
        "public int KernelDesk.size(int)",
        "public int KernelDesk.cube(int,int)",
        "public int KernelDesk.divideBy(int,int,int)",
        "public int KernelDesk.divide(int,int,int)",
        "public int KernelDesk.rest(int,int,int)",
        "public int KernelDesk.common(int)",
        "public boolean KernelDesk.free(int)",
        "public int KernelDesk.kernels(int)",
        "public int KernelDesk.cokernels(int)",
        "public int KernelDesk.nextCokernel(int,int)",
        "public int KernelDesk.holding(int,int)",
        "public int KernelDesk.saving(int,int)",
    };

    private static int wrong = 0;

    public static void main(String[] args) {
        Class<?> desk = KernelDesk.class;
        Set<String> seen = new TreeSet<>();
        Set<String> publicNames = new TreeSet<>();
        for (Field field : desk.getDeclaredFields()) {
            see(seen, field);
            due(field + " is constant or of the object", isConstant(field) || !Modifier.isStatic(field.getModifiers()));
        }
        for (Constructor<?> constructor : desk.getDeclaredConstructors()) {
            see(seen, constructor);
        }
        for (Method method : desk.getDeclaredMethods()) {
            see(seen, method);
            if (Modifier.isPublic(method.getModifiers())) {
                due(method.getName() + " is there once", publicNames.add(method.getName()));
            }
        }
        for (Method method : desk.getDeclaredMethods()) {
            if (Modifier.isPrivate(method.getModifiers())) {
                due(method + " has a name of its own", !publicNames.contains(method.getName()));
            }
        }
        Set<String> face = new TreeSet<>(Set.of(FACE));
        due("face is " + face + ", seen is " + seen, face.equals(seen));
        due("public and final", desk.getModifiers() == (Modifier.PUBLIC | Modifier.FINAL));
        due("extends nothing", desk.getSuperclass() == Object.class && desk.getInterfaces().length == 0);
        due("no nested class", desk.getDeclaredClasses().length == 0);
        System.out.println(wrong == 0 ? "the face is as due" : wrong + " faults in the face");
        if (wrong != 0) {
            System.exit(1);
        }
    }

    private static void see(Set<String> seen, Member member) {
        if (!Modifier.isPrivate(member.getModifiers())) {
            seen.add(member.toString());
        }
    }

    private static boolean isConstant(Field field) {
        int modifiers = field.getModifiers();
        boolean number = field.getType() == int.class || field.getType() == long.class;
        return number && Modifier.isStatic(modifiers) && Modifier.isFinal(modifiers);
    }

    private static void due(String what, boolean holds) {
        if (!holds) {
            wrong++;
            System.out.println("not so: " + what);
        }
    }
}
