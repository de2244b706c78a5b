import java.lang.reflect.InvocationTargetException;
import java.lang.reflect.Method;
import java.util.ArrayList;
import java.util.Comparator;
import java.util.List;

/**
 * Runs of calls by a fixed row of numbers, each answer compared with that of PlainHall. A number
 * of runs other than the usual one can be given as an argument.
 */
public final class RandomRunsTest {
    private static final int CALLS = 512;
    private static final String[] PIECES = {
        "rules ", "wall ", "harness ", "member ", "course ", ";", ";", ";", " ", "0", "1", "2", "12",
        "060", "0007", "365", "x", "wall 12 0 7", ";member 1 0", "\u00e9", "W", "\n",
    };

    private long seed;
    private final ClimbingHall hall = new ClimbingHall();
    private final PlainHall plain = new PlainHall();
    private final List<Method> methods;
    private final StringBuilder calls = new StringBuilder();
    private int made = 0;
    private static int compared = 0;

    private RandomRunsTest(long seed, List<Method> methods) {
        this.seed = seed * 7919 + 17;
        this.methods = methods;
    }

    public static void main(String[] args) throws Exception {
        int runs = args.length > 0 ? Integer.parseInt(args[0]) : 400;
        List<Method> methods = new ArrayList<>();
        for (Method method : ClimbingHall.class.getDeclaredMethods()) {
            if (java.lang.reflect.Modifier.isPublic(method.getModifiers())) {
                methods.add(method);
            }
        }
        methods.sort(Comparator.comparing(Method::getName));
        Expect expect = new Expect("RandomRunsTest");
        expect.equal("methods of the face", methods.size(), 45);
        for (int run = 0; run < runs; run++) {
            String wrong = new RandomRunsTest(run, methods).wrongCall();
            if (wrong != null) {
                expect.report("run " + run + ": " + wrong);
            }
        }
        System.out.println("RandomRunsTest: " + compared + " calls in " + runs + " runs");
        expect.finish();
    }

    private int next(int bound) {
        seed = seed * 6364136223846793005L + 1442695040888963407L;
        return (int) ((seed >>> 33) % bound);
    }

    /** Makes a run; answers its first wrong call, null if there is none. */
    private String wrongCall() throws Exception {
        String wrong = next(10) == 0 ? null : setUp();
        int busy = 2 + next(8);
        while (made < CALLS && wrong == null) {
            wrong = next(100) == 0 ? text() : next(busy) > 0 ? likelyCall() : anyCall();
        }
        return wrong;
    }

    private String setUp() throws Exception {
        int slow = next(3) == 0 ? 4 : 60;
        StringBuilder text = new StringBuilder("wall 9 0 ").append(1 + next(60));
        if (next(3) > 0) {
            text.append(";rules ").append(next(41)).append(' ').append(next(next(2) == 0 ? 2 : 11))
                    .append(' ').append(1 + next(80));
        }
        for (int i = next(8); i > 0; i--) {
            text.append(";wall 9 ").append(next(3)).append(' ').append(1 + next(slow));
        }
        for (int i = next(16); i > 0; i--) {
            text.append(";harness ").append(next(2)).append(' ').append(1 + next(100));
        }
        for (int i = next(13); i > 0; i--) {
            text.append(";member ").append(next(2)).append(' ').append(next(6));
        }
        for (int i = next(9); i > 0; i--) {
            text.append(";course ").append(1 + next(5)).append(' ').append(1 + next(3)).append(' ')
                    .append(next(6));
        }
        String wrong = put(text.toString());
        return wrong != null ? wrong : compare(named("load"));
    }

    private String put(String text) throws Exception {
        for (int at = 0; at < text.length(); at += 20) {
            String wrong = compare(named("append"), Halls.four(text, at), Halls.four(text, at + 4),
                    Halls.four(text, at + 8), Halls.four(text, at + 12), Halls.four(text, at + 16));
            if (wrong != null) {
                return wrong;
            }
        }
        return null;
    }

    private String text() throws Exception {
        StringBuilder text = new StringBuilder();
        for (int i = next(12); i >= 0; i--) {
            text.append(PIECES[next(PIECES.length)]);
        }
        String wrong = next(3) == 0 ? compare(named("truncate"), 0) : null;
        wrong = wrong != null ? wrong : put(text.toString());
        return wrong != null ? wrong : compare(named("errorPosition"));
    }

    private Method named(String name) {
        for (Method method : methods) {
            if (method.getName().equals(name)) {
                return method;
            }
        }
        throw new IllegalArgumentException(name);
    }

    /** A call that the state is likely to allow, so that the hall becomes full of things. */
    private String likelyCall() throws Exception {
        int member = next(1 + plain.count(3));
        int route = next(1 + plain.count(1));
        switch (next(16)) {
            case 0: case 1: return compare(named("setRoute"), next(1 + plain.count(0)), next(30));
            case 2: case 3: return compare(named("lend"), member, next(1 + plain.count(2)));
            case 4: case 5: case 6: case 7: return climbAndVote(member);
            case 8: return compare(named("check"), next(1 + plain.count(2)), next(6) > 0);
            case 9: return compare(named("endDays"), 1 + next(next(8) == 0 ? 20 : 2));
            case 10: return compare(named("enroll"), member, next(1 + plain.count(4)));
            case 11: return compare(named("vote"), member, route, next(30));
            case 12: return compare(named("gradeWith"), route, next(30), 1 + next(20));
            case 13: return compare(named("meanGrade"), route, next(2) == 0);
            default: return partOfAnything();
        }
    }

    private String climbAndVote(int member) throws Exception {
        String wrong = compare(named("allowedRoutes"), member);
        if (wrong != null || member >= plain.count(3) || plain.allowedRoutes(member) == 0) {
            return wrong;
        }
        int allowed = plain.allowedRoutes(member);
        int route = next(24);
        while ((allowed >>> route & 1) == 0) {
            route = (route + 1) % 24;
        }
        wrong = compare(named("climb"), member, route);
        wrong = wrong != null ? wrong : compare(named("vote"), member, route, next(30));
        wrong = wrong != null ? wrong : compare(named("voteOf"), next(1 + plain.count(3)), route);
        wrong = wrong != null ? wrong : compare(named("votesTo"), route, next(30));
        wrong = wrong != null ? wrong : compare(named("climbsLeft"), route);
        return wrong != null ? wrong : compare(named("disputed"));
    }

    private String partOfAnything() throws Exception {
        switch (next(6)) {
            case 0: return compare(named("wall"), next(1 + plain.count(0)), next(6));
            case 1: return compare(named("route"), next(1 + plain.count(1)), next(7));
            case 2: return compare(named("harness"), next(1 + plain.count(2)), next(6));
            case 3: return compare(named("member"), next(1 + plain.count(3)), next(6));
            case 4: return compare(named("course"), next(1 + plain.count(4)), next(4));
            default: return compare(named("archived"), next(1 + plain.count(5)), next(4));
        }
    }

    private String anyCall() throws Exception {
        Method method = methods.get(next(methods.size()));
        boolean rare = method.getName().equals("load") || method.getName().equals("restore");
        if (rare && next(20) > 0) {
            return null;
        }
        Object[] arguments = new Object[method.getParameterCount()];
        for (int i = 0; i < arguments.length; i++) {
            if (method.getParameterTypes()[i] == boolean.class) {
                arguments[i] = next(2) == 0;
            } else {
                arguments[i] = anyNumber();
            }
        }
        return compare(method, arguments);
    }

    private int anyNumber() {
        switch (next(12)) {
            case 0: return next(40) - 5;
            case 1: return next(700) - 100;
            case 2: return next(12000);
            case 3: return Integer.MAX_VALUE - next(3);
            case 4: return Integer.MIN_VALUE + next(3);
            case 5: return next(1 << 30) * 5;
            default: return next(next(2) == 0 ? 4 : 16);
        }
    }

    /** The only place that calls the hall: what it answers after 512 calls is free. */
    private String compare(Method method, Object... arguments) throws Exception {
        if (made == CALLS) {
            return null;
        }
        made++;
        Method other = PlainHall.class.getMethod(method.getName(), method.getParameterTypes());
        compared++;
        String due = answer(other, plain, arguments);
        String got = answer(method, hall, arguments);
        calls.append(method.getName()).append(java.util.Arrays.toString(arguments)).append(' ');
        return got.equals(due) ? null : calls + "answered " + got + ", due is " + due;
    }

    private static String answer(Method method, Object on, Object[] arguments) throws Exception {
        try {
            return String.valueOf(method.invoke(on, arguments));
        } catch (InvocationTargetException thrown) {
            return thrown.getCause().getClass().getName();
        }
    }
}
