import java.lang.reflect.Member;
import java.lang.reflect.Modifier;
import java.util.Arrays;
import java.util.Set;
import java.util.TreeSet;
import java.util.stream.Collectors;
import java.util.stream.Stream;

/** The class has the document's public face, and everything else in it is private. */
public final class FaceTest {
    private static final Set<String> FACE = new TreeSet<>(Arrays.asList(
        "public ColumnStore()",
        "public int ColumnStore.append(int,int,int)",
        "public int ColumnStore.strike(int)",
        "public int ColumnStore.range(int,int,int)",
        "public void ColumnStore.open()",
        "public int ColumnStore.count()",
        "public long ColumnStore.sum(int)",
        "public int ColumnStore.extreme(int,boolean)",
        "public int ColumnStore.passing(int)",
        "public int ColumnStore.value(int,int)",
        "public int ColumnStore.different(int)",
        "public int ColumnStore.live()"));

    public static void main(String[] args) {
        Class<?> face = ColumnStore.class;
        Set<String> seen = Stream.of(face.getDeclaredConstructors(), face.getDeclaredMethods(), face.getDeclaredFields())
            .flatMap(Arrays::stream)
            .filter(member -> !Modifier.isPrivate(((Member) member).getModifiers()))
            .map(Object::toString)
            .collect(Collectors.toCollection(TreeSet::new));
        boolean right = seen.equals(FACE)
            && face.getModifiers() == (Modifier.PUBLIC | Modifier.FINAL)
            && face.getSuperclass() == Object.class
            && face.getInterfaces().length == 0
            && face.getDeclaredClasses().length == 0;
        System.out.println(right ? "the face is as due" : "the face is " + face.toGenericString() + " " + seen);
        if (!right) {
            System.exit(1);
        }
    }
}
