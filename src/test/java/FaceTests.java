import java.lang.reflect.Field;
import java.lang.reflect.Member;
import java.lang.reflect.Modifier;
import java.util.Set;
import java.util.TreeSet;

/** The class has the public face of the document, and every other member is private. */
public final class FaceTests extends Checks {
    private static final Class<?> TYPE = SparseKernels.class;
    private static final Set<String> FACE = Set.of(
            "public SparseKernels()",
            "public static final int SparseKernels.NONE",
            "public boolean SparseKernels.put(int,int,int,int)",
            "public int SparseKernels.add(int,int,int)",
            "public int SparseKernels.entrywise(int,int,int)",
            "public int SparseKernels.product(int,int,int)",
            "public int SparseKernels.masked(int,int)",
            "public int SparseKernels.transpose(int,int)",
            "public int SparseKernels.scale(int,int,int)",
            "public int SparseKernels.select(int,int,int)",
            "public int SparseKernels.at(int,int,int)",
            "public int SparseKernels.count(int)",
            "public int SparseKernels.next(int,int,int)",
            "public int SparseKernels.rowsProduct(int,int,int,int)",
            "public int SparseKernels.sum(int,int,int)",
            "public boolean SparseKernels.same(int,int)",
            "public boolean SparseKernels.symmetric(int)");

    public static void main(String[] args) {
        members();
        nothingFromElsewhere();
        noneIsAConstant(-1);
        nothingIsSharedByObjects();
        finish();
    }

    // "The public face": these members, with these names and types, and no others
    private static void members() {
        Set<String> seen = new TreeSet<>();
        addVisible(seen, TYPE.getDeclaredConstructors());
        addVisible(seen, TYPE.getDeclaredFields());
        addVisible(seen, TYPE.getDeclaredMethods());
        due("face: members", seen, new TreeSet<>(FACE));
        due("face: nested classes", TYPE.getDeclaredClasses().length, 0);
    }

    private static void addVisible(Set<String> seen, Member[] members) {
        for (Member member : members) {
            if (!Modifier.isPrivate(member.getModifiers())) {
                seen.add(member.toString());
            }
        }
    }

    // "public final class SparseKernels", with no members that come from another type
    private static void nothingFromElsewhere() {
        due("face: class", Modifier.toString(TYPE.getModifiers()) + " class " + TYPE.getName(),
                "public final class SparseKernels");
        due("face: superclass", TYPE.getSuperclass().getName(), "java.lang.Object");
        due("face: interfaces", TYPE.getInterfaces().length, 0);
    }

    // "public static final int NONE = -1": as the label of a case it must be a constant to compile
    private static void noneIsAConstant(int number) {
        switch (number) {
            case SparseKernels.NONE:
                break;
            default:
                due("face: NONE", SparseKernels.NONE, number);
        }
    }

    // Promise 1: what a new object holds, it holds alone
    private static void nothingIsSharedByObjects() {
        for (Field field : TYPE.getDeclaredFields()) {
            boolean constant = Modifier.isFinal(field.getModifiers()) && field.getType().isPrimitive();
            due("face: " + field.getName() + " is a constant or of one object",
                    constant || !Modifier.isStatic(field.getModifiers()), true);
        }
    }
}
