import java.lang.reflect.Member;
import java.lang.reflect.Method;
import java.lang.reflect.Modifier;
import java.util.ArrayList;
import java.util.Arrays;
import java.util.Collections;
import java.util.List;

/** The public face: just the constants, the constructor and the methods of the document. */
public final class FaceTest {
    private static final String FACE = "ask(int)int behind(int,int)int breath(int)int coat(int,int,int)int "
        + "done()int fault()int fitting(int)int forget()int grief(int,int,int)int hold(int,int,int,int)int "
        + "image(int)int judge(int)int least(int,int)int make(int,int)int move(int,int,boolean)int "
        + "order(int)int play(int,int)int restore(int)int ring(int,int,int)int say(int)int "
        + "seen(int,boolean)int shape(int)int themselves(int,int,int,int)long then(int)int told(int)int "
        + "wipe()int year(int,int,int)int";

    public static void main(String[] args) throws Exception {
        constants();
        methods();
        nothingElseIsOpen();
        Check.end(FaceTest.class);
    }

    private static void constants() {
        Check.due("NONE", MireWrestle.NONE, -6);
        Check.due("UNKNOWN", MireWrestle.UNKNOWN, -1);
        Check.due("OUTSIDE", MireWrestle.OUTSIDE, -2);
        Check.due("STATE", MireWrestle.STATE, -3);
        Check.due("FULL", MireWrestle.FULL, -4);
        Check.due("NO", MireWrestle.NO, -5);
        Check.due("LOST", MireWrestle.LOST, -1000000000000000000L);
        Check.due("public fields", MireWrestle.class.getFields().length, 7);
    }

    private static void methods() {
        List<String> face = new ArrayList<>();
        for (Method method : MireWrestle.class.getDeclaredMethods()) {
            if (Modifier.isPublic(method.getModifiers())) {
                face.add(method.getName() + Arrays.toString(method.getParameterTypes())
                    .replace("[", "(").replace("]", ")").replace(" ", "") + method.getReturnType());
            }
        }
        Collections.sort(face);
        Check.same("the face", String.join(" ", face), FACE);
    }

    private static void nothingElseIsOpen() {
        Class<?> it = MireWrestle.class;
        Check.due("final", it.getModifiers() & Modifier.FINAL, Modifier.FINAL);
        List<Member> members = new ArrayList<>();
        members.addAll(List.of(it.getDeclaredFields()));
        members.addAll(List.of(it.getDeclaredMethods()));
        members.addAll(List.of(it.getDeclaredConstructors()));
        for (Member member : members) {
            boolean open = Modifier.isPublic(member.getModifiers());
            boolean hidden = Modifier.isPrivate(member.getModifiers()) || member.isSynthetic();
            Check.due(member + " is public or private", open || hidden ? 1 : 0, 1);
        }
        for (Class<?> inside : it.getDeclaredClasses()) {
            Check.due(inside + " is static", inside.getModifiers() & Modifier.STATIC, Modifier.STATIC);
            Check.due(inside + " is public", inside.getModifiers() & Modifier.PUBLIC, 0);
        }
    }
}
