/** Promises 17 to 23: rings, blocks, trains, minutes, and what stands for ever. */
public final class RailsTest {
    private static final int NONE = -6, UNKNOWN = -1, OUTSIDE = -2, STATE = -3, FULL = -4, NO = -5;
    private static final int LEAST = Integer.MIN_VALUE, GREATEST = Integer.MAX_VALUE;

    public static void main(String[] args) {
        rings();
        blocks();
        blocksUnderTrains();
        trains();
        trainsFull();
        placesOfShortRings();
        stick();
        minutes();
        byNumbers();
        waiting();
        commonBlocks();
        stuckMinutes();
        trainOf();
        standsBehindStuck();
        standsInACircle();
        runOfMany();
        Check.end();
    }

    /** A town with one ring of the blocks 10, 11, .. */
    private static ModelTown withRing(int blocks) {
        ModelTown town = new ModelTown();
        town.ring();
        for (int b = 0; b < blocks; b++) {
            town.block(0, 10 + b);
        }
        return town;
    }

    private static void rings() {
        ModelTown town = new ModelTown();
        for (int r = 0; r < 3; r++) {
            Check.due(17, "ring() " + r, town.ring(), r);
        }
        Check.due(17, "ring() 3", town.ring(), FULL);
        Check.due(17, "told(5)", town.told(5), 3);
        Check.due(17, "block(2, 0), the first of a ring", town.block(2, 0), 1);
    }

    private static void blocks() {
        ModelTown town = new ModelTown();
        Check.due(18, "block(0, 0)", town.block(0, 0), UNKNOWN);
        town.ring();
        town.ring();
        Check.due(18, "block(-1, 0)", town.block(-1, 0), UNKNOWN);
        Check.due(18, "block(2, 0)", town.block(2, 0), UNKNOWN);
        Check.due(18, "block(2, 30)", town.block(2, 30), UNKNOWN);
        Check.due(18, "block(LEAST, 0)", town.block(LEAST, 0), UNKNOWN);
        Check.due(18, "block(0, -1)", town.block(0, -1), OUTSIDE);
        Check.due(18, "block(0, 30)", town.block(0, 30), OUTSIDE);
        Check.due(18, "block(0, GREATEST)", town.block(0, GREATEST), OUTSIDE);
        Check.due(18, "block(0, 29)", town.block(0, 29), 1);
        Check.due(18, "block(0, 29) again", town.block(0, 29), NO);
        Check.due(18, "block(0, 0)", town.block(0, 0), 2);
        Check.due(18, "block(1, 0), in common", town.block(1, 0), 1);
        for (int b = 1; b <= 10; b++) {
            Check.due(18, "block(0, " + b + ")", town.block(0, b), b + 2);
        }
        Check.due(18, "block(0, 20), the 13th", town.block(0, 20), FULL);
        Check.due(18, "block(0, 29), FULL ahead of NO", town.block(0, 29), FULL);
        Check.due(18, "block(0, 30), OUTSIDE ahead of FULL", town.block(0, 30), OUTSIDE);
        Check.due(18, "block(1, 20)", town.block(1, 20), 2);
        town.train(0, 11, 1);
        Check.due(18, "trainOf(0, 2), the 12th block", town.trainOf(0, 2), 10);
        Check.due(18, "block(0, 20), STATE ahead of FULL", town.block(0, 20), STATE);
    }

    private static void blocksUnderTrains() {
        ModelTown town = withRing(3);
        town.ring();
        town.block(1, 10);
        town.block(1, 20);
        Check.due(18, "block(0, 10), it has it", town.block(0, 10), NO);
        town.train(0, 0, 1);
        Check.due(18, "block(0, 10), STATE ahead of NO", town.block(0, 10), STATE);
        Check.due(18, "block(0, 13)", town.block(0, 13), STATE);
        Check.due(18, "block(0, 30)", town.block(0, 30), OUTSIDE);
        // the train in block 10 goes round ring 0: no train is on ring 1
        Check.due(18, "block(1, 21)", town.block(1, 21), 3);
    }

    private static void trains() {
        ModelTown town = withRing(4);
        town.ring();
        town.block(1, 13);
        town.block(1, 20);
        Check.due(19, "train(-1, 0, 1)", town.train(-1, 0, 1), UNKNOWN);
        Check.due(19, "train(2, 0, 1)", town.train(2, 0, 1), UNKNOWN);
        Check.due(19, "train(2, -1, 0)", town.train(2, -1, 0), UNKNOWN);
        Check.due(19, "train(0, -1, 1)", town.train(0, -1, 1), OUTSIDE);
        Check.due(19, "train(0, 4, 1)", town.train(0, 4, 1), OUTSIDE);
        Check.due(19, "train(0, 12, 1)", town.train(0, 12, 1), OUTSIDE);
        Check.due(19, "train(0, GREATEST, 1)", town.train(0, GREATEST, 1), OUTSIDE);
        Check.due(19, "train(0, 0, 0)", town.train(0, 0, 0), OUTSIDE);
        Check.due(19, "train(0, 0, 10)", town.train(0, 0, 10), OUTSIDE);
        Check.due(19, "told(6)", town.told(6), 0);
        Check.due(19, "train(0, 3, 9)", town.train(0, 3, 9), 0);
        Check.due(19, "train(0, 3, 1), in its block", town.train(0, 3, 1), NO);
        Check.due(19, "train(1, 0, 1), in its block of another ring", town.train(1, 0, 1), NO);
        Check.due(19, "train(1, 1, 1)", town.train(1, 1, 1), 1);
        Check.due(19, "trainOf(0, 2)", town.trainOf(0, 2), 13);
        Check.due(19, "trainOf(1, 2)", town.trainOf(1, 2), 20);
        town.run(8);
        Check.due(19, "trainOf(0, 6) after 8 minutes", town.trainOf(0, 6), 0);
        town.run(1);
        Check.due(19, "trainOf(0, 6) after 9 minutes", town.trainOf(0, 6), 1);
    }

    private static void trainsFull() {
        ModelTown town = withRing(6);
        town.ring();
        for (int t = 0; t < 4; t++) {
            Check.due(19, "train " + t, town.train(0, t, 1), t);
        }
        Check.due(19, "train, the 5th", town.train(0, 4, 1), FULL);
        Check.due(19, "train, FULL ahead of NO", town.train(0, 0, 1), FULL);
        Check.due(19, "train, STATE ahead of FULL", town.train(1, 0, 1), STATE);
        Check.due(19, "train, OUTSIDE ahead of FULL", town.train(0, 6, 1), OUTSIDE);
        Check.due(19, "told(6)", town.told(6), 4);
    }

    private static void placesOfShortRings() {
        ModelTown town = new ModelTown();
        town.ring();
        for (int blocks = 0; blocks <= 1; blocks++) {
            Check.due(19, "train(0, 0, 1) of " + blocks, town.train(0, 0, 1), STATE);
            Check.due(19, "train(0, 11, 9) of " + blocks, town.train(0, 11, 9), STATE);
            Check.due(19, "train(0, 12, 1) of " + blocks, town.train(0, 12, 1), OUTSIDE);
            Check.due(19, "train(0, -1, 1) of " + blocks, town.train(0, -1, 1), OUTSIDE);
            Check.due(19, "train(0, 0, 10) of " + blocks, town.train(0, 0, 10), OUTSIDE);
            town.block(0, blocks);
        }
        Check.due(19, "train(0, 2, 1) of 2", town.train(0, 2, 1), OUTSIDE);
        Check.due(19, "train(0, 1, 1) of 2", town.train(0, 1, 1), 0);
    }

    private static void stick() {
        ModelTown town = withRing(3);
        Check.due(20, "stick(0, true)", town.stick(0, true), UNKNOWN);
        town.train(0, 0, 1);
        Check.due(20, "stick(-1, true)", town.stick(-1, true), UNKNOWN);
        Check.due(20, "stick(1, true)", town.stick(1, true), UNKNOWN);
        Check.due(20, "stick(GREATEST, true)", town.stick(GREATEST, true), UNKNOWN);
        Check.due(20, "stick(0, false)", town.stick(0, false), 0);
        Check.due(20, "stick(0, true)", town.stick(0, true), 0);
        Check.due(20, "stick(0, true)", town.stick(0, true), 1);
        Check.due(20, "run(5) of a stuck one", town.run(5), 0);
        Check.due(20, "trainOf(0, 4)", town.trainOf(0, 4), 1);
        Check.due(20, "stick(0, false)", town.stick(0, false), 1);
        Check.due(20, "trainOf(0, 4)", town.trainOf(0, 4), 0);
        Check.due(20, "run(5)", town.run(5), 5);
    }

    private static void minutes() {
        ModelTown town = withRing(3);
        Check.due(21, "run(0)", town.run(0), OUTSIDE);
        Check.due(21, "run(501)", town.run(501), OUTSIDE);
        Check.due(21, "run(-1)", town.run(-1), OUTSIDE);
        Check.due(21, "run(LEAST)", town.run(LEAST), OUTSIDE);
        Check.due(21, "run(GREATEST)", town.run(GREATEST), OUTSIDE);
        Check.due(21, "told(7)", town.told(7), 0);
        Check.due(21, "run(1) without TRAINS", town.run(1), 0);
        Check.due(21, "told(7)", town.told(7), 1);
        town.train(0, 2, 3);
        Check.due(21, "run(2)", town.run(2), 0);
        Check.due(21, "trainOf(0, 3)", town.trainOf(0, 3), 2);
        Check.due(21, "run(1)", town.run(1), 1);
        Check.due(21, "trainOf(0, 1), round to place 0", town.trainOf(0, 1), 0);
        Check.due(21, "trainOf(0, 3)", town.trainOf(0, 3), 0);
        Check.due(21, "run(500)", town.run(500), 166);
        Check.due(21, "trainOf(0, 1)", town.trainOf(0, 1), 166 % 3);
        Check.due(21, "trainOf(0, 3)", town.trainOf(0, 3), 2);
        Check.due(21, "trainOf(0, 6)", town.trainOf(0, 6), 167);
        Check.due(21, "told(7)", town.told(7), 504);
    }

    /** A train of a lesser number leaves its block ahead of the one behind it, or only after it. */
    private static void byNumbers() {
        ModelTown town = withRing(4);
        town.train(0, 1, 1);
        town.train(0, 0, 1);
        Check.due(21, "run(1), the first number ahead", town.run(1), 2);
        Check.due(21, "trainOf(1, 5)", town.trainOf(1, 5), 0);
        ModelTown other = withRing(4);
        other.train(0, 0, 1);
        other.train(0, 1, 1);
        Check.due(21, "run(1), the first number behind", other.run(1), 1);
        Check.due(21, "trainOf(0, 5)", other.trainOf(0, 5), 1);
        Check.due(21, "trainOf(0, 3)", other.trainOf(0, 3), 1);
        Check.due(21, "trainOf(1, 1)", other.trainOf(1, 1), 2);
    }

    private static void waiting() {
        ModelTown town = withRing(3);
        town.train(0, 0, 2);
        town.train(0, 1, 5);
        Check.due(21, "run(4)", town.run(4), 0);
        // from its 2nd minute on train 0 waits, each minute once
        Check.due(21, "trainOf(0, 5)", town.trainOf(0, 5), 3);
        Check.due(21, "trainOf(0, 3)", town.trainOf(0, 3), 4);
        Check.due(21, "run(1)", town.run(1), 1);
        Check.due(21, "trainOf(0, 5)", town.trainOf(0, 5), 4);
        // at once as the block is free, though its minutes are long over
        Check.due(21, "run(1)", town.run(1), 1);
        Check.due(21, "trainOf(0, 1)", town.trainOf(0, 1), 1);
        Check.due(21, "trainOf(0, 3)", town.trainOf(0, 3), 0);
        Check.due(21, "trainOf(0, 5)", town.trainOf(0, 5), 4);
    }

    private static void commonBlocks() {
        ModelTown town = withRing(3);
        town.ring();
        town.block(1, 20);
        town.block(1, 11);
        town.block(1, 21);
        town.train(0, 0, 2);
        town.train(1, 0, 1);
        Check.due(21, "run(1), into the common block", town.run(1), 1);
        Check.due(22, "trainOf(0, 7)", town.trainOf(0, 7), 1);
        Check.due(22, "trainOf(1, 7)", town.trainOf(1, 7), NONE);
        Check.due(21, "run(1)", town.run(1), 1);
        Check.due(22, "trainOf(0, 5)", town.trainOf(0, 5), 1);
        Check.due(22, "trainOf(1, 2)", town.trainOf(1, 2), 21);
        Check.due(22, "trainOf(1, 0)", town.trainOf(1, 0), 1);
        Check.due(21, "run(1)", town.run(1), 2);
        Check.due(22, "trainOf(0, 2)", town.trainOf(0, 2), 11);
        Check.due(22, "trainOf(1, 7)", town.trainOf(1, 7), 0);
    }

    private static void stuckMinutes() {
        ModelTown town = withRing(3);
        town.train(0, 0, 4);
        town.run(2);
        town.stick(0, true);
        town.run(7);
        Check.due(21, "trainOf(0, 3) of a stuck one", town.trainOf(0, 3), 2);
        Check.due(21, "trainOf(0, 5) of a stuck one", town.trainOf(0, 5), 0);
        Check.due(21, "told(7)", town.told(7), 9);
        town.stick(0, false);
        Check.due(21, "run(1)", town.run(1), 0);
        Check.due(21, "run(1)", town.run(1), 1);
    }

    private static void trainOf() {
        ModelTown town = withRing(2);
        Check.due(22, "trainOf(0, 0)", town.trainOf(0, 0), UNKNOWN);
        town.train(0, 1, 1);
        int[] due = {0, 1, 11, 0, 0, 0, 0, NONE};
        for (int what = 0; what <= 7; what++) {
            Check.due(22, "trainOf(0, " + what + ")", town.trainOf(0, what), due[what]);
        }
        town.train(0, 0, 3);
        town.stick(1, true);
        town.run(5);
        int[][] later = {{0, 1, 11, 5, 0, 5, 0, 1}, {0, 0, 10, 0, 1, 0, 0, 0}};
        for (int t = 0; t < 2; t++) {
            for (int what = 0; what <= 7; what++) {
                Check.due(22, "trainOf(" + t + ", " + what + ")", town.trainOf(t, what), later[t][what]);
            }
        }
        Check.due(22, "trainOf(0, -1)", town.trainOf(0, -1), OUTSIDE);
        Check.due(22, "trainOf(0, 8)", town.trainOf(0, 8), OUTSIDE);
        Check.due(22, "trainOf(2, 0)", town.trainOf(2, 0), UNKNOWN);
        Check.due(22, "trainOf(-1, 8)", town.trainOf(-1, 8), UNKNOWN);
    }

    private static void standsBehindStuck() {
        ModelTown town = withRing(6);
        town.train(0, 2, 1);
        town.train(0, 1, 1);
        town.train(0, 0, 1);
        town.train(0, 4, 1);
        Check.due(23, "stands()", town.stands(), 0);
        town.stick(0, true);
        Check.due(23, "stands(), the row behind train 0", town.stands(), 7);
        town.stick(0, false);
        town.stick(1, true);
        Check.due(23, "stands(), train 1 and 2", town.stands(), 6);
        town.stick(2, true);
        town.stick(1, false);
        Check.due(23, "stands(), train 2 alone", town.stands(), 4);
        town.stick(3, true);
        // train 0 still has a free block ahead of it
        Check.due(23, "stands(), train 2 and 3", town.stands(), 12);
        Check.due(23, "run(1)", town.run(1), 2);
        Check.due(23, "stands(), all behind train 3", town.stands(), 15);
        Check.due(23, "run(9)", town.run(9), 0);
        Check.due(23, "run(1) of a town where all stands", town.run(1), 0);
    }

    private static void standsInACircle() {
        ModelTown town = withRing(3);
        for (int t = 0; t < 3; t++) {
            town.train(0, t, 1);
        }
        Check.due(23, "stands(), a full ring", town.stands(), 7);
        Check.due(23, "run(20)", town.run(20), 0);
        town.ring();
        town.block(1, 20);
        town.block(1, 21);
        town.block(1, 10);
        town.train(1, 0, 9);
        Check.due(23, "stands(), one runs elsewhere", town.stands(), 7);
        town.run(9);
        Check.due(23, "stands(), behind the full ring", town.stands(), 15);
        // a row of all four, told from its end on, so that it is followed up against the numbers
        ModelTown row = withRing(5);
        for (int t = 0; t < 4; t++) {
            row.train(0, t, 1);
        }
        Check.due(23, "stands(), a row with room ahead", row.stands(), 0);
        row.stick(2, true);
        Check.due(23, "stands(), all but the last", row.stands(), 7);
    }

    /** n minutes at once are as good as n times one minute. */
    private static void runOfMany() {
        ModelTown town = withRing(7);
        ModelTown twin = withRing(7);
        for (int t = 0; t < 4; t++) {
            town.train(0, 2 * t % 7, 1 + 2 * t);
            twin.train(0, 2 * t % 7, 1 + 2 * t);
        }
        int sum = 0;
        for (int minute = 0; minute < 97; minute++) {
            sum += twin.run(1);
        }
        Check.due(21, "run(97)", town.run(97), sum);
        for (int t = 0; t < 4; t++) {
            for (int what = 0; what <= 7; what++) {
                Check.due(22, "trainOf(" + t + ", " + what + ")", town.trainOf(t, what), twin.trainOf(t, what));
            }
        }
    }
}
