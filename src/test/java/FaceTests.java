import java.lang.reflect.Constructor;
import java.lang.reflect.Field;
import java.lang.reflect.Method;
import java.lang.reflect.Modifier;
import java.util.Set;
import java.util.TreeSet;

/** The class has the public face of the document, and every other member is private. */
public final class FaceTests {
    private static final Set<String> FACE = Set.of(
            "public SparseKernels()",
            "public static final int SparseKernels.NONE",
            "public boolean SparseKernels.put(int,int,int,int)",
            "public int SparseKernels.add(int,int,int)",
            "public int SparseKernels.entrywise(int,int,int)",
            "public int SparseKernels.product(int,int,int)",
            "public int SparseKernels.masked(int,int)",
            "public int SparseKernels.transpose(int,int)",
            "public int SparseKernels.scale(int,int,int)",
            "public int SparseKernels.select(int,int,int)",
            "public int SparseKernels.at(int,int,int)",
            "public int SparseKernels.count(int)",
            "public int SparseKernels.next(int,int,int)",
            "public int SparseKernels.rowsProduct(int,int,int,int)",
            "public int SparseKernels.sum(int,int,int)",
            "public boolean SparseKernels.same(int,int)",
            "public boolean SparseKernels.symmetric(int)");

    public static void main(String[] args) {
        Set<String> seen = new TreeSet<>();
        Class<?> type = SparseKernels.class;
        for (Constructor<?> member : type.getDeclaredConstructors()) {
            seen.add(member.toString());
        }
        for (Field member : type.getDeclaredFields()) {
            if (!Modifier.isPrivate(member.getModifiers())) {
                seen.add(member.toString());
            }
        }
        for (Method member : type.getDeclaredMethods()) {
            if (!Modifier.isPrivate(member.getModifiers())) {
                seen.add(member.toString());
            }
        }
        boolean asDue = seen.equals(FACE) && Modifier.toString(type.getModifiers()).equals("public final");
        System.out.println(asDue ? "the face is as due" : "the face is " + seen + ", due is " + new TreeSet<>(FACE));
        if (!asDue) {
            System.exit(1);
        }
    }
}
