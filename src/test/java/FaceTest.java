import java.lang.reflect.Constructor;
import java.lang.reflect.Member;
import java.lang.reflect.Method;
import java.lang.reflect.Modifier;
import java.util.Set;
import java.util.TreeSet;

/** The public face: every method of the document with what it throws, and no other member that can be seen. */
public final class FaceTest {

    private static final String FACE = """
        int type(char) IllegalArgumentException IllegalStateException
        int clear()
        int word() IllegalArgumentException UnsupportedOperationException IllegalStateException
        int room(boolean) IllegalStateException
        int show(int,int) IndexOutOfBoundsException IllegalStateException
        int exit(int,char,int) IndexOutOfBoundsException IllegalArgumentException IllegalStateException
        int lock(int,char,int) IndexOutOfBoundsException IllegalArgumentException UnsupportedOperationException IllegalStateException
        int thing(int,int,int,char) IndexOutOfBoundsException IllegalArgumentException UnsupportedOperationException IllegalStateException
        int fuel(int,int) IndexOutOfBoundsException IllegalArgumentException UnsupportedOperationException IllegalStateException
        int tell(int,int) IndexOutOfBoundsException IllegalStateException
        int goal(int,int) IndexOutOfBoundsException IllegalStateException
        int hint(int) IllegalArgumentException IllegalStateException
        int teach(int,int) IndexOutOfBoundsException UnsupportedOperationException IllegalStateException
        int begin(int) IndexOutOfBoundsException IllegalStateException
        char say() IllegalStateException
        int at() IllegalStateException
        int place(int) IndexOutOfBoundsException IllegalStateException
        boolean isOpen(int) IndexOutOfBoundsException IllegalStateException UnsupportedOperationException
        int lit(int) IndexOutOfBoundsException IllegalStateException UnsupportedOperationException
        boolean isBright() IllegalStateException
        int weight() IllegalStateException
        int node() IllegalStateException
        int nodes() IllegalStateException
        int parent(int) IndexOutOfBoundsException NoSuchElementException
        int depth(int) IndexOutOfBoundsException
        int children(int) IndexOutOfBoundsException
        int common(int,int) IndexOutOfBoundsException
        int undo() IllegalStateException NoSuchElementException
        int redo(int) IllegalStateException NoSuchElementException
        int name() IllegalStateException IllegalArgumentException UnsupportedOperationException
        int jump() IllegalStateException NoSuchElementException
        boolean isKnown(int) IndexOutOfBoundsException IllegalStateException
        int known() IllegalStateException
        int learnt(int) IndexOutOfBoundsException IllegalStateException NoSuchElementException
        int postings(int) IndexOutOfBoundsException
        int posting(int,int) IndexOutOfBoundsException NoSuchElementException
        int rare(int) IllegalStateException NoSuchElementException
        int price(int) IndexOutOfBoundsException IllegalStateException UnsupportedOperationException
        int buy(int) IndexOutOfBoundsException IllegalStateException UnsupportedOperationException NoSuchElementException
        boolean isOwned(int) IndexOutOfBoundsException IllegalStateException
        int read(int) IndexOutOfBoundsException IllegalStateException UnsupportedOperationException
        int coins()
        int earn(int) IllegalArgumentException
        int sales()
        int sale(int,char) IndexOutOfBoundsException IllegalArgumentException
        int merge(int) IndexOutOfBoundsException IllegalStateException UnsupportedOperationException
        int score() IllegalStateException
        int steps(int) IndexOutOfBoundsException IllegalStateException NoSuchElementException
        int line() IllegalStateException
        char signOf(int) IllegalStateException NoSuchElementException
        long checksum() IllegalStateException
        float knownShare() IllegalStateException ArithmeticException
        double meanPrice() NoSuchElementException
        boolean isSound()
        """;

    public static void main(String[] args) {
        Set<String> want = new TreeSet<>(FACE.lines().toList());
        Set<String> got = new TreeSet<>();
        Set<String> publicNames = new TreeSet<>();
        Set<String> otherNames = new TreeSet<>();
        for (Method method : Lorewick.class.getDeclaredMethods()) {
            if (Modifier.isPublic(method.getModifiers())) {
                got.add(textOf(method));
                publicNames.add(method.getName());
            } else if (!method.isSynthetic()) {
                otherNames.add(method.getName());
                checkPrivate(method);
            }
        }
        Check.due(0, "the face has 54 methods", 54, () -> want.size());
        Check.due(0, "the face", want, () -> got);
        for (java.lang.reflect.Field field : Lorewick.class.getDeclaredFields()) {
            checkPrivate(field);
            if (Modifier.isStatic(field.getModifiers())) {
                Check.due(0, field + " is final", true, () -> Modifier.isFinal(field.getModifiers()));
            }
        }
        checkClasses(publicNames, otherNames);
        otherNames.retainAll(publicNames);
        Check.due(0, "private methods with public names", "[]", () -> otherNames);
        Constructor<?>[] constructors = Lorewick.class.getConstructors();
        Check.due(1, "one constructor", 1, () -> Lorewick.class.getDeclaredConstructors().length);
        Check.due(1, "it is public and takes nothing", 0, () -> constructors[0].getParameterCount());
        Check.due(0, "the class is public and final", Modifier.PUBLIC | Modifier.FINAL, () -> Lorewick.class.getModifiers());
        Check.end();
    }

    private static void checkPrivate(Member member) {
        Check.due(0, member + " is private", true, () -> Modifier.isPrivate(member.getModifiers()));
    }

    private static void checkClasses(Set<String> publicNames, Set<String> otherNames) {
        for (Class<?> inside : Lorewick.class.getDeclaredClasses()) {
            int modifiers = inside.getModifiers();
            Check.due(0, inside + " is static and not public", true,
                () -> Modifier.isStatic(modifiers) && !Modifier.isPublic(modifiers) && !Modifier.isProtected(modifiers));
            for (Method method : inside.getDeclaredMethods()) {
                if (!Modifier.isPublic(method.getModifiers())) {
                    otherNames.add(method.getName());
                }
            }
        }
    }

    private static String textOf(Method method) {
        StringBuilder text = new StringBuilder(method.getReturnType().getName());
        text.append(' ').append(method.getName()).append('(');
        for (int i = 0; i < method.getParameterCount(); i++) {
            text.append(i == 0 ? "" : ",").append(method.getParameterTypes()[i].getName());
        }
        text.append(')');
        for (Class<?> thrown : method.getExceptionTypes()) {
            text.append(' ').append(thrown.getSimpleName());
        }
        return text.toString();
    }
}
