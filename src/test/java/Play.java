import java.lang.reflect.Method;
import java.util.ArrayList;
import java.util.HashMap;
import java.util.List;
import java.util.Map;

/** A town and the calls that were made on it, so that a town of the same past can be made again. */
final class Play {
    /** Stands for the number that a run of calls tries out. */
    static final Object IT = "it";

    private static final int MAX_CALLS = 512;
    private static final Map<String, Method> CALLS = new HashMap<>();

    static {
        for (Method method : ModelTown.class.getDeclaredMethods()) {
            CALLS.put(method.getName(), method);
        }
    }

    private final ModelTown town = new ModelTown();
    private final List<String> names = new ArrayList<>();
    private final List<Object[]> numbers = new ArrayList<>();
    private int calls = 0;

    /** A town where something of everything is there, and nothing is full. */
    static Play livedIn() {
        Play play = new Play();
        play.call("rule", 10, 9, 5);
        play.call("rule", 40, 20, 0);
        play.call("thing", 0, 9000, 700, 0);
        play.call("thing", 1, 9000, 700, 20);
        play.call("thing", 2, 9000, 700, 0);
        play.call("clip", 1, 30, 100);
        play.call("fade", 1, 12);
        play.call("wall", 1, 0, 10);
        play.call("wall", 1, 1, 12);
        play.call("wall", 2, 2, 60);
        play.call("frost", 5, true);
        play.call("hands", 30);
        play.times(3, "week");
        play.times(2, "ring");
        for (int block = 0; block < 4; block++) {
            play.call("block", 0, block);
        }
        play.call("block", 1, 3);
        play.call("block", 1, 7);
        play.call("train", 0, 0, 2);
        play.call("train", 0, 1, 3);
        play.call("train", 1, 1, 5);
        play.call("stick", 1, true);
        play.call("run", 4);
        play.times(2, "figure");
        play.call("note", 0, 5, 9, 3);
        play.call("note", 0, 9, 12, -1);
        play.call("note", 1, 2, 12, 50);
        return play;
    }

    /** A town where all that may be full is full; no train is on its ring 2 of twelve blocks, 8 to 19. */
    static Play full() {
        Play play = livedIn();
        play.times(4, "rule", 40, 5, 5);
        play.times(17, "thing", 2, 9000, 700, 0);
        play.times(59, "clip", 1, 40, 70);
        play.times(21, "wall", 1, 2, 3);
        play.call("ring");
        for (int block = 8; block < 20; block++) {
            play.call("block", 2, block);
        }
        play.call("train", 0, 3, 1);
        play.times(10, "figure");
        play.times(57, "note", 0, 9, 40, 7);
        return play;
    }

    /** A town where all weeks are over. */
    static Play old() {
        Play play = livedIn();
        play.times(197, "week");
        return play;
    }

    /** A call that belongs to the town's past. */
    int call(String name, Object... with) {
        names.add(name);
        numbers.add(with);
        return answer(name, with);
    }

    /** Many calls of one kind. */
    void times(int many, String name, Object... with) {
        for (int made = 0; made < many; made++) {
            call(name, with);
        }
    }

    void due(int due, String name, Object... with) {
        Edges.due(textOf(name, with), call(name, with), due);
    }

    /** A call with a due answer that changes nothing: a refused one, or one that only asks. */
    void idle(int due, String name, Object... with) {
        Edges.due(textOf(name, with), answer(name, with), due);
        for (int probe = 0; probe < Probes.COUNT; probe++) {
            Play twin = again();
            twin.answer(name, with);
            Edges.same("a town after " + textOf(name, with), Probes.told(probe, twin), Probes.told(probe, again()));
        }
    }

    void refused(int due, String name, Object... with) {
        idle(due, name, with);
    }

    /** Refused are the numbers beside the least and the greatest that are taken, and the farthest. */
    void beside(int due, int least, int greatest, String name, Object... with) {
        refused(due, name, putIn(with, least - 1));
        refused(due, name, putIn(with, greatest + 1));
        refused(due, name, putIn(with, Integer.MIN_VALUE));
        refused(due, name, putIn(with, Integer.MAX_VALUE));
    }

    void outside(int least, int greatest, String name, Object... with) {
        beside(ModelTown.OUTSIDE, least, greatest, name, with);
    }

    void unknown(int many, String name, Object... with) {
        beside(ModelTown.UNKNOWN, 0, many - 1, name, with);
    }

    /** A call that leaves no mark in the past, as it must change nothing. */
    int answer(String name, Object... with) {
        calls++;
        if (calls > MAX_CALLS) {
            throw new IllegalStateException("a test made more than " + MAX_CALLS + " calls of one town");
        }
        try {
            return (int) CALLS.get(name).invoke(town, with);
        } catch (ReflectiveOperationException thrown) {
            throw new IllegalStateException(textOf(name, with) + ": " + thrown.getCause());
        }
    }

    private Play again() {
        Play twin = new Play();
        for (int made = 0; made < names.size(); made++) {
            twin.call(names.get(made), numbers.get(made));
        }
        return twin;
    }

    private static Object[] putIn(Object[] with, int number) {
        Object[] put = with.clone();
        for (int place = 0; place < put.length; place++) {
            if (put[place] == IT) {
                put[place] = number;
            }
        }
        return put;
    }

    private static String textOf(String name, Object... with) {
        StringBuilder text = new StringBuilder(name).append('(');
        for (int place = 0; place < with.length; place++) {
            text.append(place == 0 ? "" : ", ").append(with[place]);
        }
        return text.append(')').toString();
    }
}
