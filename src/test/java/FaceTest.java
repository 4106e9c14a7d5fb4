import java.lang.reflect.Member;
import java.lang.reflect.Method;
import java.lang.reflect.Modifier;
import java.util.ArrayList;
import java.util.Arrays;
import java.util.List;
import java.util.Set;
import java.util.TreeSet;

/** The class has the face of DOC.md and nothing else that can be seen, and the forms that LANGUAGE.md asks for. */
public final class FaceTest {
    private static final List<String> FACE = List.of("feed(int,int,int,int,int)int", "text(int)int", "fault()int",
            "count(int)int", "thing(int,int)int", "boat(int,int)int", "water(int,int)boolean",
            "bars(int,int,int,boolean)int", "safe(int,int,boolean)int", "reached(int)int", "fewest()int", "quickest()int",
            "ways()int", "way(int,int)int", "where(int,int)int", "rides(int,int)int", "laws(int)int", "size(int)int",
            "rounds()int", "alike(int)int", "cross(int,int,int)int", "law()int", "back()int", "play(int)int",
            "hint(int)int");
    private static int wrong = 0;

    public static void main(String[] args) {
        Class<?> face = FerryHall.class;
        check("the class is public and final", face.getModifiers() == (Modifier.PUBLIC | Modifier.FINAL));
        Set<String> names = new TreeSet<>();
        List<String> visible = new ArrayList<>();
        for (Method method : face.getDeclaredMethods()) {
            if (!Modifier.isPrivate(method.getModifiers()) && !method.isSynthetic()) {
                visible.add(method.getName() + parameters(method) + method.getReturnType());
                names.add(method.getName());
            }
        }
        check("the methods " + visible, new TreeSet<>(visible).equals(new TreeSet<>(FACE)));
        hidden(face.getDeclaredFields(), "NONE");
        check("one constructor", face.getDeclaredConstructors().length == 1);
        for (Method method : face.getDeclaredMethods()) {
            check("no private " + method.getName(), !Modifier.isPrivate(method.getModifiers()) || !names.contains(method.getName()));
        }
        check("at most twelve classes and the face", face.getDeclaredClasses().length <= 12);
        for (Class<?> inside : face.getDeclaredClasses()) {
            checkInside(inside, names);
        }
        System.out.println(wrong == 0 ? "the face is as due" : wrong + " things are not as due");
        if (wrong != 0) {
            System.exit(1);
        }
    }

    private static String parameters(Method method) {
        return Arrays.toString(method.getParameterTypes()).replace("[", "(").replace("]", ")").replace(" ", "");
    }

    private static void hidden(Member[] members, String but) {
        for (Member member : members) {
            check(member.getName() + " is private", Modifier.isPrivate(member.getModifiers()) || member.getName().equals(but));
        }
    }

    private static void checkInside(Class<?> inside, Set<String> names) {
        check(inside + " is static", Modifier.isStatic(inside.getModifiers()));
        int fields = 0;
        for (var field : inside.getDeclaredFields()) {
            boolean constant = Modifier.isStatic(field.getModifiers());
            check(field + " is final, if static", !constant || Modifier.isFinal(field.getModifiers()));
            fields += constant ? 0 : 1;
        }
        check(inside + " has some twenty fields at most", fields <= 20);
        for (Method method : inside.getDeclaredMethods()) {
            check(method + " takes seven at most", method.getParameterCount() <= 7);
            check(method + " is no name of the face", !names.contains(method.getName()));
        }
    }

    private static void check(String what, boolean holds) {
        if (!holds) {
            wrong++;
            System.out.println("not so: " + what);
        }
    }
}
