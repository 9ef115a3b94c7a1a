/** All promises: refused calls change nothing, whatever is read afterwards. */
public final class RefusalsTest {
    private static final int OUTSIDE = -2, STATE = -3, FULL = -4, NO = -5;
    private static final int[] DAYS = {0, 9, 10, 40, 3000};

    public static void main(String[] args) {
        refusedInAYoungTown();
        refusedInAFullTown();
        refusedWhenWeeksAreOver();
        Check.end();
    }

    private static ModelTown youngTown() {
        ModelTown town = new ModelTown();
        town.rule(10, 9, 5);
        town.thing(0, 9000, 700, 0);
        town.thing(1, 9000, 700, 20);
        town.clip(1, 30, 100);
        town.fade(1, 12);
        town.wall(1, 0, 10);
        town.wall(1, 1, 12);
        town.frost(3, true);
        town.week();
        town.week();
        town.ring();
        town.ring();
        town.block(0, 0);
        town.block(0, 1);
        town.block(0, 2);
        town.block(1, 7);
        town.train(0, 0, 2);
        town.train(0, 1, 3);
        town.stick(1, true);
        town.run(4);
        town.figure();
        town.note(0, 5, 9, 3);
        town.note(0, 9, 12, -1);
        return town;
    }

    private static String readOut(ModelTown town) {
        StringBuilder out = new StringBuilder();
        for (int what = 0; what <= 9; what++) {
            put(out, town.told(what));
        }
        for (int day : DAYS) {
            put(out, town.force(day, 0));
            put(out, town.force(day, 1));
            put(out, town.look(0, day, 0));
            put(out, town.look(1, day, 0));
            put(out, town.where(0, day, 10));
            put(out, town.where(0, day, 3000));
            put(out, town.turns(0, day));
        }
        for (int what = 0; what <= 7; what++) {
            for (int number = 0; number < 2; number++) {
                put(out, town.wallOf(number, what));
                put(out, town.trainOf(number, what));
            }
        }
        for (int n = 1; n <= 4; n++) {
            put(out, town.foretell(n, 0));
        }
        put(out, town.stands());
        return out.toString();
    }

    private static void put(StringBuilder out, int answer) {
        out.append(answer).append(' ');
    }

    private static void refusedInAYoungTown() {
        ModelTown town = youngTown();
        String before = readOut(town);
        refuseOutside(town);
        Check.due(5, "clip(0, 30, 1)", town.clip(0, 30, 1), STATE);
        Check.due(5, "clip(1, 29, 1)", town.clip(1, 29, 1), NO);
        Check.due(13, "frost(1, true)", town.frost(1, true), NO);
        Check.due(18, "block(0, 9)", town.block(0, 9), STATE);
        Check.due(18, "block(1, 7)", town.block(1, 7), NO);
        Check.due(19, "train(1, 0, 1)", town.train(1, 0, 1), STATE);
        Check.due(19, "train(0, 1, 1)", town.train(0, 1, 1), NO);
        Check.due(25, "note(0, 12, 11, 1)", town.note(0, 12, 11, 1), NO);
        Check.due(25, "note(0, 14, 13, 1)", town.note(0, 14, 13, 1), NO);
        Check.same("the town after refused calls", readOut(town), before);
        Check.same("the town after refused calls", readOut(youngTown()), before);
    }

    /** Each number of each call that changes something, once too small and once too great. */
    private static void refuseOutside(ModelTown town) {
        int[] refused = {
            town.rule(-1, 12, 1), town.rule(3001, 12, 1), town.rule(1, 1, 1), town.rule(1, 31, 1),
            town.rule(1, 12, -1), town.rule(1, 12, 51),
            town.thing(-1, 100, 1, 0), town.thing(3, 100, 1, 0), town.thing(1, 99, 1, 0),
            town.thing(1, 60001, 1, 0), town.thing(1, 100, 0, 0), town.thing(1, 100, 9001, 0),
            town.thing(1, 100, 1, -1), town.thing(1, 100, 1, 51),
            town.clip(1, -1, 1), town.clip(1, 3001, 1), town.clip(1, 31, 0), town.clip(1, 31, 9001),
            town.fade(-1, 1), town.fade(4, 1), town.fade(1, -1), town.fade(1, 41),
            town.wall(-1, 1, 1), town.wall(100, 1, 1), town.wall(1, -1, 1), town.wall(1, 4, 1),
            town.wall(1, 1, 0), town.wall(1, 1, 61),
            town.hands(-1), town.hands(501), town.frost(-1, true), town.frost(200, true),
            town.foretell(0, 0), town.foretell(53, 0), town.foretell(1, -1), town.foretell(1, 3),
            town.enough(0, 1), town.enough(53, 1), town.enough(1, -1), town.enough(1, 101),
            town.block(1, -1), town.block(1, 30),
            town.train(0, -1, 1), town.train(0, 3, 1), town.train(0, 2, 0), town.train(0, 2, 10),
            town.run(0), town.run(501),
            town.note(0, -1, 12, 1), town.note(0, 3001, 12, 1), town.note(0, 1, -1, 1),
            town.note(0, 1, 3001, 1), town.note(0, 1, 12, -2), town.note(0, 1, 12, 100)};
        for (int r = 0; r < refused.length; r++) {
            Check.due(0, "refused call " + r, refused[r], OUTSIDE);
        }
        int[] unknown = {
            town.clip(-1, 31, 1), town.clip(2, 31, 1), town.block(-1, 1), town.block(2, 1), town.train(-1, 2, 1),
            town.train(2, 2, 1), town.stick(-1, true), town.stick(2, true), town.note(-1, 1, 12, 1),
            town.note(1, 1, 12, 1)};
        for (int u = 0; u < unknown.length; u++) {
            Check.due(0, "unknown call " + u, unknown[u], -1);
        }
    }

    private static void refusedInAFullTown() {
        ModelTown town = youngTown();
        fill(town);
        String before = readOut(town);
        Check.due(2, "rule(10, 2, 2)", town.rule(10, 2, 2), FULL);
        Check.due(4, "thing(0, 100, 1, 0)", town.thing(0, 100, 1, 0), FULL);
        Check.due(5, "clip(1, 40, 7)", town.clip(1, 40, 7), FULL);
        Check.due(10, "wall(0, 0, 1)", town.wall(0, 0, 1), FULL);
        Check.due(17, "ring()", town.ring(), FULL);
        Check.due(18, "block(1, 29)", town.block(1, 29), FULL);
        Check.due(19, "train(1, 9, 1)", town.train(1, 9, 1), FULL);
        Check.due(24, "figure()", town.figure(), FULL);
        Check.due(25, "note(0, 9, 40, 50)", town.note(0, 9, 40, 50), FULL);
        Check.same("the full town after refused calls", readOut(town), before);
    }

    private static void fill(ModelTown town) {
        for (int rule = 1; rule < 6; rule++) {
            town.rule(40, 5, 5);
        }
        for (int thing = 2; thing < 20; thing++) {
            town.thing(2, 9000, 700, 0);
        }
        for (int clipping = 1; clipping < 60; clipping++) {
            town.clip(1, 40, 10 + clipping);
        }
        for (int wall = 2; wall < 24; wall++) {
            town.wall(1, 2, 3);
        }
        town.ring();
        for (int block = 8; block < 19; block++) {
            town.block(1, block);
        }
        for (int block = 20; block < 24; block++) {
            town.block(2, block);
        }
        town.train(2, 0, 1);
        town.train(2, 2, 1);
        for (int figure = 1; figure < 12; figure++) {
            town.figure();
        }
        for (int note = 2; note < 60; note++) {
            town.note(0, 9, 40, note);
        }
    }

    private static void refusedWhenWeeksAreOver() {
        ModelTown town = youngTown();
        while (town.told(3) < 200) {
            town.week();
        }
        String before = readOut(town);
        Check.due(14, "week()", town.week(), STATE);
        Check.due(13, "frost(199, true)", town.frost(199, true), NO);
        Check.due(15, "foretell(1, 0)", town.foretell(1, 0), STATE);
        Check.due(16, "enough(1, 0)", town.enough(1, 0), STATE);
        Check.same("the old town after refused calls", readOut(town), before);
    }
}
