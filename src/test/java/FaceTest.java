import java.lang.reflect.Member;
import java.lang.reflect.Method;
import java.lang.reflect.Modifier;
import java.util.ArrayList;
import java.util.Arrays;
import java.util.List;
import java.util.TreeSet;

/** The public face is the document's, with its exceptions, and nothing but private stands beside it. */
final class FaceTest {
    private static final String[] FACE = {
        "int order(int,int) IndexOutOfBounds IllegalArgument UnsupportedOperation",
        "int item(int,int,int,int) IndexOutOfBounds IllegalArgument UnsupportedOperation",
        "void weights(int,int,int) IndexOutOfBounds IllegalArgument UnsupportedOperation",
        "void agree(int,int) IndexOutOfBounds IllegalArgument",
        "void change(int,int,int,int,int) IndexOutOfBounds IllegalState IllegalArgument UnsupportedOperation",
        "int field(int,int,int) IndexOutOfBounds IllegalArgument",
        "int history(int,int,int) IndexOutOfBounds",
        "int split(int,int) IndexOutOfBounds IllegalState IllegalArgument UnsupportedOperation",
        "int made(int,int) IndexOutOfBounds IllegalArgument UnsupportedOperation",
        "int state(int,int) IndexOutOfBounds IllegalArgument",
        "int rest(int) IndexOutOfBounds",
        "void costs(int,int,int) IllegalArgument",
        "int quote(int,int) IndexOutOfBounds IllegalArgument UnsupportedOperation",
        "int quoteAt(int,int) IndexOutOfBounds",
        "long price(int) IndexOutOfBounds",
        "void credit(int,int) IndexOutOfBounds IllegalArgument",
        "long accept(int) IndexOutOfBounds IllegalState UnsupportedOperation",
        "void capacity(int) IllegalArgument UnsupportedOperation",
        "int reserve(int) IndexOutOfBounds IllegalState UnsupportedOperation",
        "int join(int,int) IndexOutOfBounds",
        "boolean ready(int) IndexOutOfBounds",
        "int late(int) IndexOutOfBounds",
        "int tick(int) IllegalArgument",
    };

    public static void main(String[] args) {
        faceIsTheDocuments();
        theRestIsPrivate();
        Checks.finish();
    }

    private static void faceIsTheDocuments() {
        TreeSet<String> due = new TreeSet<>(Arrays.asList(FACE));
        TreeSet<String> got = new TreeSet<>();
        for (Method method : OrderRows.class.getDeclaredMethods()) {
            if (Modifier.isPublic(method.getModifiers())) {
                got.add(lineOf(method));
            }
        }
        for (String line : due) {
            Checks.same(line + " is there", got.contains(line), true);
        }
        for (String line : got) {
            Checks.same(line + " is of the document", due.contains(line), true);
        }
        Checks.same("public constructors", OrderRows.class.getConstructors().length, 1);
        Checks.same("final", Modifier.isFinal(OrderRows.class.getModifiers()), true);
    }

    private static String lineOf(Method method) {
        StringBuilder line = new StringBuilder();
        line.append(method.getReturnType().getName()).append(' ').append(method.getName()).append('(');
        line.append("int,".repeat(method.getParameterCount()));
        line.setLength(line.length() - 1);
        line.append(')');
        for (Class<?> exception : method.getExceptionTypes()) {
            line.append(' ').append(exception.getSimpleName().replace("Exception", ""));
        }
        return line.toString();
    }

    private static void theRestIsPrivate() {
        TreeSet<String> publicNames = new TreeSet<>();
        List<Member> members = new ArrayList<>();
        members.addAll(Arrays.asList(OrderRows.class.getDeclaredMethods()));
        members.addAll(Arrays.asList(OrderRows.class.getDeclaredFields()));
        for (Member member : members) {
            if (Modifier.isPublic(member.getModifiers())) {
                publicNames.add(member.getName());
            } else {
                Checks.same(member.getName() + " is private", Modifier.isPrivate(member.getModifiers()), true);
            }
        }
        for (Class<?> inner : OrderRows.class.getDeclaredClasses()) {
            Checks.same(inner + " is static", Modifier.isStatic(inner.getModifiers()), true);
            members.addAll(Arrays.asList(inner.getDeclaredMethods()));
        }
        for (Member member : members) {
            if (member instanceof Method && !Modifier.isPublic(member.getModifiers())) {
                Checks.same(member.getName() + " is no public name", publicNames.contains(member.getName()), false);
            }
        }
    }
}
