import java.lang.reflect.Constructor;
import java.lang.reflect.Field;
import java.lang.reflect.Method;
import java.lang.reflect.Modifier;
import java.util.Arrays;
import java.util.Set;
import java.util.TreeSet;

/** The document's public face, whole and nothing beside it. */
public final class FaceTest {
    private static final String[] FACE = {
        "public static final int BAD_DOC = -1",
        "public static final int BAD_TERM = -2",
        "public static final int CLOSED = -3",
        "public static final int BAD_NODE = -4",
        "public static final int NO_DOC = -5",
        "public static final int NONE = -6",
        "public ShardSearch()",
        "public int ShardSearch.put(int,int,int)",
        "public int ShardSearch.delete(int)",
        "public int ShardSearch.refresh()",
        "public int ShardSearch.crash(int)",
        "public int ShardSearch.restart(int)",
        "public int ShardSearch.search(int,int)",
        "public int ShardSearch.hit(int)",
        "public int ShardSearch.score(int)",
        "public int ShardSearch.count(int,int)",
        "public boolean ShardSearch.open(int)",
        "public int ShardSearch.inPlay()",
        "public int ShardSearch.weight(int)",
    };

    public static void main(String[] args) throws IllegalAccessException {
        Due due = new Due();
        due.part("face");
        Class<?> type = ShardSearch.class;
        due.is("modifiers of the class", type.getModifiers(), Modifier.PUBLIC | Modifier.FINAL);
        due.is("nested classes", type.getDeclaredClasses().length, 0);
        due.is("interfaces", type.getInterfaces().length, 0);
        due.is("superclass is Object", type.getSuperclass() == Object.class, true);

        Set<String> want = new TreeSet<>(Arrays.asList(FACE));
        Set<String> got = visibleMembers(type);
        for (String member : want) {
            due.is("has " + member, got.contains(member), true);
        }
        for (String member : got) {
            due.is("may have " + member, want.contains(member), true);
        }
        due.end();
    }

    private static Set<String> visibleMembers(Class<?> type) throws IllegalAccessException {
        Set<String> found = new TreeSet<>();
        for (Field field : type.getDeclaredFields()) {
            if (!Modifier.isPrivate(field.getModifiers())) {
                String value = Modifier.isStatic(field.getModifiers()) ? " = " + field.get(null) : "";
                found.add(Modifier.toString(field.getModifiers()) + " " + field.getType() + " " + field.getName() + value);
            }
        }
        for (Constructor<?> constructor : type.getDeclaredConstructors()) {
            if (!Modifier.isPrivate(constructor.getModifiers())) {
                found.add(constructor.toString());
            }
        }
        for (Method method : type.getDeclaredMethods()) {
            if (!Modifier.isPrivate(method.getModifiers())) {
                found.add(method.toString());
            }
        }
        return found;
    }
}
