import java.lang.reflect.Constructor;
import java.lang.reflect.Field;
import java.lang.reflect.Method;
import java.lang.reflect.Modifier;
import java.util.Set;
import java.util.TreeSet;

/** The members that a user can see are those of the document's face and no others. */
public final class FaceTest {
    private static final Set<String> FACE = Set.of(
            "public static final int CoverKernel.NONE",
            "public CoverKernel()",
            "public boolean CoverKernel.join(int,int,boolean)",
            "public int CoverKernel.neighbours(int)",
            "public int CoverKernel.edges()",
            "public boolean CoverKernel.covers(int)",
            "public int CoverKernel.least()",
            "public int CoverKernel.leastCover()",
            "public int CoverKernel.leastWith(int,int)",
            "public int CoverKernel.always()",
            "public int CoverKernel.never()",
            "public int CoverKernel.halves()",
            "public int CoverKernel.whole()",
            "public int CoverKernel.bare()",
            "public boolean CoverKernel.canHave(int,int)",
            "public int CoverKernel.matching()",
            "public boolean CoverKernel.evenly()",
            "public int CoverKernel.tightCovers()");

    public static void main(String[] args) {
        Set<String> seen = new TreeSet<>();
        for (Field field : CoverKernel.class.getDeclaredFields()) {
            addUnlessPrivate(seen, field.getModifiers(), field.toString());
        }
        for (Constructor<?> constructor : CoverKernel.class.getDeclaredConstructors()) {
            addUnlessPrivate(seen, constructor.getModifiers(), constructor.toString());
        }
        for (Method method : CoverKernel.class.getDeclaredMethods()) {
            addUnlessPrivate(seen, method.getModifiers(), method.toString());
        }
        int wrong = 0;
        if (CoverKernel.class.getModifiers() != (Modifier.PUBLIC | Modifier.FINAL)) {
            System.out.println("the class is not public and final");
            wrong++;
        }
        if (!seen.equals(FACE)) {
            System.out.println("the face is " + seen + ", due is " + new TreeSet<>(FACE));
            wrong++;
        }
        if (CoverKernel.NONE != -1) {
            System.out.println("NONE is " + CoverKernel.NONE + ", due is -1");
            wrong++;
        }
        System.out.println(wrong == 0 ? "the face is as due" : "the face is not as due");
        if (wrong != 0) {
            System.exit(1);
        }
    }

    private static void addUnlessPrivate(Set<String> seen, int modifiers, String text) {
        if (!Modifier.isPrivate(modifiers)) {
            seen.add(text);
        }
    }
}
