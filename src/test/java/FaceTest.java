import java.lang.reflect.Constructor;
import java.lang.reflect.Field;
import java.lang.reflect.Member;
import java.lang.reflect.Method;
import java.lang.reflect.Modifier;
import java.util.Set;
import java.util.TreeSet;

/** The public face: just what the document names, and nothing else that others can see. */
final class FaceTest {
    private static final String[] FACE = {
        "NONE", "WagonClearing/0", "line/4", "least/2", "route/2", "part/4", "book/4", "wagon/2",
        "see/4", "close/0", "error/2", "whose/1", "cost/0", "terms/2", "charge/2", "balance/1",
        "fewest/0", "group/1", "empties/3", "met/0", "led/0", "count/1",
    };

    public static void main(String[] args) {
        Check check = new Check();
        Set<String> left = new TreeSet<>(Set.of(FACE));
        for (Field field : WagonClearing.class.getDeclaredFields()) {
            look(check, left, field, field.getName());
        }
        for (Constructor<?> made : WagonClearing.class.getDeclaredConstructors()) {
            look(check, left, made, "WagonClearing/" + made.getParameterCount());
        }
        for (Method method : WagonClearing.class.getDeclaredMethods()) {
            look(check, left, method, method.getName() + "/" + method.getParameterCount());
        }
        check.due("members that are missing: " + left, left.size(), 0);
        check.due("the class is public and final",
                Modifier.isPublic(WagonClearing.class.getModifiers())
                        && Modifier.isFinal(WagonClearing.class.getModifiers()), true);
        check.due("NONE", WagonClearing.NONE, -1);
        check.end();
    }

    private static void look(Check check, Set<String> left, Member member, String name) {
        if (!Modifier.isPrivate(member.getModifiers())) {
            check.due(name + " is of the face", left.remove(name), true);
            check.due(name + " is public", Modifier.isPublic(member.getModifiers()), true);
        }
    }
}
