import java.util.Random;

/** No call throws, for any arguments in any state; the same calls give the same answers. */
public final class NeverThrowsTest {
    private static final int[] EDGES = {
        Integer.MIN_VALUE, Integer.MIN_VALUE + 1, -3001, -102, -6, -2, -1, 0, 1, 2, 3, 4, 5, 7, 9, 10, 11, 12, 13, 19,
        20, 23, 24, 29, 30, 31, 50, 51, 52, 53, 59, 60, 61, 99, 100, 101, 199, 200, 500, 501, 2999, 3000, 3001, 9000,
        9001, 60000, 60001, 1 << 16, Integer.MAX_VALUE - 1, Integer.MAX_VALUE};

    public static void main(String[] args) {
        for (int seed = 0; seed < 400; seed++) {
            long first = play(seed, 512);
            Check.due(1, "the same calls again, seed " + seed, play(seed, 512), first);
        }
        play(1000, 200000);
        Check.end();
    }

    /** Plays a run of calls with numbers of every kind; answers a sum over all answers. */
    private static long play(int seed, int calls) {
        Random random = new Random(seed);
        ModelTown town = new ModelTown();
        long sum = 0;
        for (int c = 0; c < calls; c++) {
            int call = random.nextInt(29);
            int a = number(random);
            int b = number(random);
            int d = number(random);
            int e = number(random);
            try {
                sum = 31 * sum + answer(town, call, a, b, d, e);
            } catch (RuntimeException thrown) {
                Check.same("call " + call + " with " + a + ", " + b + ", " + d + ", " + e, thrown.toString(), "");
            }
        }
        return sum;
    }

    /** Mostly small numbers, that calls take; else an edge, or any number at all. */
    private static int number(Random random) {
        int kind = random.nextInt(10);
        if (kind < 6) {
            return random.nextInt(1 << (1 + random.nextInt(8)));
        }
        return kind < 9 ? EDGES[random.nextInt(EDGES.length)] : random.nextInt();
    }

    private static int answer(ModelTown town, int call, int a, int b, int d, int e) {
        switch (call) {
            case 0: return town.rule(a, b, d);
            case 1: return town.force(a, b);
            case 2: return town.thing(a, b, d, e);
            case 3: return town.clip(a, b, d);
            case 4: return town.look(a, b, d);
            case 5: return town.fault(a);
            case 6: return town.spoils(a, b);
            case 7: return town.fade(a, b);
            case 8: return town.wall(a, b, d);
            case 9: return town.wallOf(a, b);
            case 10: return town.hands(a);
            case 11: return town.frost(a, b > 0);
            case 12: return town.week();
            case 13: return town.foretell(a, b);
            case 14: return town.enough(a, b);
            default: return laterAnswer(town, call, a, b, d, e);
        }
    }

    private static int laterAnswer(ModelTown town, int call, int a, int b, int d, int e) {
        switch (call) {
            case 15: return town.ring();
            case 16: return town.block(a, b);
            case 17: return town.train(a, b, d);
            case 18: return town.stick(a, b > 0);
            case 19: return town.run(a);
            case 20: return town.trainOf(a, b);
            case 21: return town.stands();
            case 22: return town.figure();
            case 23: return town.note(a, b, d, e);
            case 24: return town.where(a, b, d);
            case 25: return town.at(a, b, d);
            case 26: return town.turns(a, b);
            default: return town.told(a);
        }
    }
}
