import java.lang.reflect.Method;
import java.util.ArrayList;
import java.util.HashMap;
import java.util.List;
import java.util.Map;

/** A town and the calls that were made on it, so that a town of the same past can be made again. */
final class Play {
    /** Stands for the number that a run of calls tries out. */
    static final Object IT = "it";

    private static final int MAX_CALLS = 512;
    private static final Map<String, Method> CALLS = new HashMap<>();

    static {
        for (Method method : ModelTown.class.getDeclaredMethods()) {
            CALLS.put(method.getName(), method);
        }
    }

    private final ModelTown town = new ModelTown();
    private final List<String> names = new ArrayList<>();
    private final List<Object[]> numbers = new ArrayList<>();
    private int calls = 0;

    /** A call that belongs to the town's past. */
    int call(String name, Object... with) {
        names.add(name);
        numbers.add(with);
        return answer(name, with);
    }

    /** Many calls of one kind. */
    void times(int many, String name, Object... with) {
        for (int made = 0; made < many; made++) {
            call(name, with);
        }
    }

    void due(int due, String name, Object... with) {
        Edges.due(textOf(name, with), call(name, with), due);
    }

    /** A call with a due answer that changes nothing: a refused one, or one that only asks. */
    void idle(int due, String name, Object... with) {
        Edges.due(textOf(name, with), answer(name, with), due);
        for (int probe = 0; probe < Probes.COUNT; probe++) {
            Play twin = again();
            twin.answer(name, with);
            Edges.same("a town after " + textOf(name, with), Probes.told(probe, twin), Probes.told(probe, again()));
        }
    }

    void refused(int due, String name, Object... with) {
        idle(due, name, with);
    }

    /** Refused are the numbers beside the least and the greatest that are taken, and the farthest. */
    void beside(int due, int least, int greatest, String name, Object... with) {
        refused(due, name, putIn(with, least - 1));
        refused(due, name, putIn(with, greatest + 1));
        refused(due, name, putIn(with, Integer.MIN_VALUE));
        refused(due, name, putIn(with, Integer.MAX_VALUE));
    }

    void outside(int least, int greatest, String name, Object... with) {
        beside(ModelTown.OUTSIDE, least, greatest, name, with);
    }

    void unknown(int many, String name, Object... with) {
        beside(ModelTown.UNKNOWN, 0, many - 1, name, with);
    }

    /** A call that leaves no mark in the past, as it must change nothing. */
    int answer(String name, Object... with) {
        calls++;
        if (calls > MAX_CALLS) {
            throw new IllegalStateException("a test made more than " + MAX_CALLS + " calls of one town");
        }
        try {
            return (int) CALLS.get(name).invoke(town, with);
        } catch (ReflectiveOperationException thrown) {
            throw new IllegalStateException(textOf(name, with) + ": " + thrown.getCause());
        }
    }

    private Play again() {
        Play twin = new Play();
        for (int made = 0; made < names.size(); made++) {
            twin.call(names.get(made), numbers.get(made));
        }
        return twin;
    }

    private static Object[] putIn(Object[] with, int number) {
        Object[] put = with.clone();
        for (int place = 0; place < put.length; place++) {
            if (put[place] == IT) {
                put[place] = number;
            }
        }
        return put;
    }

    private static String textOf(String name, Object... with) {
        StringBuilder text = new StringBuilder(name).append('(');
        for (int place = 0; place < with.length; place++) {
            text.append(place == 0 ? "" : ", ").append(with[place]);
        }
        return text.append(')').toString();
    }
}
