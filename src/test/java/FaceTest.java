import java.lang.reflect.Constructor;
import java.lang.reflect.Field;
import java.lang.reflect.Method;
import java.lang.reflect.Modifier;
import java.util.HashSet;
import java.util.Set;
import java.util.StringJoiner;
import java.util.TreeSet;

/** The public face of the document, and rule 1 of LANGUAGE.md: nothing else is to be seen. */
public final class FaceTest {
    private static final Expect EXPECT = new Expect("FaceTest");
    private static final String FACE = """
            append(int int int int int) int IllegalStateException
            truncate(int) int IllegalArgumentException
            errorPosition() int
            load() int IllegalArgumentException
            setRoute(int int) int IndexOutOfBoundsException IllegalArgumentException IllegalStateException
            removeRoute(int) int IndexOutOfBoundsException
            climb(int int) int IndexOutOfBoundsException IllegalStateException
            vote(int int int) int IndexOutOfBoundsException IllegalArgumentException IllegalStateException
            lend(int int) int IndexOutOfBoundsException IllegalStateException
            giveBack(int) int IndexOutOfBoundsException IllegalStateException
            check(int boolean) int IndexOutOfBoundsException IllegalStateException
            enroll(int int) int IndexOutOfBoundsException IllegalStateException
            leaveCourse(int) int IndexOutOfBoundsException IllegalStateException
            finish(int int) int IndexOutOfBoundsException
            postpone(int int) int IndexOutOfBoundsException IllegalArgumentException
            endDays(int) int IllegalArgumentException
            undo() int IllegalStateException
            undoCount() int
            save() int
            restore() int IllegalStateException
            count(int) int IllegalArgumentException
            wall(int int) int IndexOutOfBoundsException IllegalArgumentException
            route(int int) int IndexOutOfBoundsException IllegalArgumentException
            archived(int int) int IndexOutOfBoundsException IllegalArgumentException
            member(int int) int IndexOutOfBoundsException IllegalArgumentException
            harness(int int) int IndexOutOfBoundsException IllegalArgumentException
            course(int int) int IndexOutOfBoundsException IllegalArgumentException
            bill(int int int) int IndexOutOfBoundsException ArithmeticException
            grade(int) int IndexOutOfBoundsException
            meanGrade(int boolean) int IndexOutOfBoundsException
            voteOf(int int) int IndexOutOfBoundsException NoSuchElementException
            gradeWith(int int int) int IndexOutOfBoundsException IllegalArgumentException
            votesTo(int int) int IndexOutOfBoundsException IllegalArgumentException NoSuchElementException
            disputed() int NoSuchElementException
            hardest(int) int IndexOutOfBoundsException NoSuchElementException
            climbsLeft(int) int IndexOutOfBoundsException
            averageGrade() double NoSuchElementException
            openWalls(int) int IllegalArgumentException
            worstDay(int) int IllegalArgumentException
            shiftFor(int) int IndexOutOfBoundsException NoSuchElementException
            lendable(int) int IllegalArgumentException
            lapsing(int) int IllegalArgumentException
            checksNeeded(int int) int IllegalArgumentException NoSuchElementException
            allowedRoutes(int) int IndexOutOfBoundsException
            ladder(int int) int IndexOutOfBoundsException IllegalArgumentException NoSuchElementException
            """;

    public static void main(String[] args) {
        expectClass();
        expectMethods();
        expectFields();
        expectInside();
        EXPECT.finish();
    }

    private static void expectClass() {
        int modifiers = ClimbingHall.class.getModifiers();
        EXPECT.equal("public and final", modifiers, Modifier.PUBLIC | Modifier.FINAL);
        Constructor<?>[] constructors = ClimbingHall.class.getDeclaredConstructors();
        EXPECT.equal("one constructor", constructors.length, 1);
        EXPECT.equal("without parameters", constructors[0].getParameterCount(), 0);
        EXPECT.equal("public", constructors[0].getModifiers(), Modifier.PUBLIC);
        EXPECT.equal("NONE", ClimbingHall.NONE, -1);
    }

    private static String told(Method method) {
        StringJoiner parameters = new StringJoiner(" ", method.getName() + "(", ")");
        for (Class<?> type : method.getParameterTypes()) {
            parameters.add(type.getSimpleName());
        }
        StringJoiner told = new StringJoiner(" ");
        told.add(parameters.toString()).add(method.getReturnType().getSimpleName());
        for (Class<?> type : method.getExceptionTypes()) {
            told.add(type.getSimpleName());
        }
        return told.toString();
    }

    private static void expectMethods() {
        Set<String> due = new TreeSet<>(FACE.lines().toList());
        Set<String> names = new HashSet<>();
        EXPECT.equal("methods of the face", due.size(), 45);
        for (Method method : ClimbingHall.class.getDeclaredMethods()) {
            if (method.isSynthetic() || Modifier.isPrivate(method.getModifiers())) {
                continue;
            }
            EXPECT.equal("public: " + method, method.getModifiers(), Modifier.PUBLIC);
            EXPECT.equal("in the document: " + told(method), due.remove(told(method)) ? 1 : 0, 1);
            names.add(method.getName());
        }
        EXPECT.equal("missing: " + due, due.size(), 0);
        for (Method method : ClimbingHall.class.getDeclaredMethods()) {
            if (Modifier.isPrivate(method.getModifiers())) {
                EXPECT.equal("a name of its own: " + method, names.contains(method.getName()) ? 1 : 0, 0);
            }
        }
    }

    private static void expectFields() {
        for (Field field : ClimbingHall.class.getDeclaredFields()) {
            boolean none = field.getName().equals("NONE");
            int seen = field.getModifiers() & (Modifier.PUBLIC | Modifier.PROTECTED | Modifier.PRIVATE);
            EXPECT.equal("seen: " + field, seen, none ? Modifier.PUBLIC : Modifier.PRIVATE);
            if (Modifier.isStatic(field.getModifiers())) {
                EXPECT.equal("final: " + field, field.getModifiers() & Modifier.FINAL, Modifier.FINAL);
            }
        }
    }

    private static void expectInside() {
        for (Class<?> inside : ClimbingHall.class.getDeclaredClasses()) {
            int modifiers = inside.getModifiers();
            EXPECT.equal("static: " + inside, modifiers & Modifier.STATIC, Modifier.STATIC);
            EXPECT.equal("not to be seen: " + inside,
                    modifiers & (Modifier.PUBLIC | Modifier.PROTECTED), 0);
        }
    }
}
