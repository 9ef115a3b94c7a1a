/** Promises 24 to 29: figures, notes of two times, and what is told over all. */
public final class BookTest {
    private static final int NONE = -6, UNKNOWN = -1, OUTSIDE = -2, FULL = -4, NO = -5;
    private static final int LEAST = Integer.MIN_VALUE, GREATEST = Integer.MAX_VALUE;

    public static void main(String[] args) {
        figures();
        notes();
        notesFull();
        where();
        whereOfOneDay();
        whereRefuses();
        at();
        turns();
        turnsThereAndBack();
        told();
        Check.end();
    }

    private static void figures() {
        ModelTown town = new ModelTown();
        for (int f = 0; f < 12; f++) {
            Check.due(24, "figure() " + f, town.figure(), f);
        }
        Check.due(24, "figure() 12", town.figure(), FULL);
        Check.due(24, "told(8)", town.told(8), 12);
        Check.due(24, "note(11, 0, 0, 0)", town.note(11, 0, 0, 0), 1);
        Check.due(24, "note(12, 0, 0, 0)", town.note(12, 0, 0, 0), UNKNOWN);
    }

    private static void notes() {
        ModelTown town = new ModelTown();
        Check.due(25, "note(0, 0, 0, 0)", town.note(0, 0, 0, 0), UNKNOWN);
        town.figure();
        town.figure();
        Check.due(25, "note(-1, 0, 0, 0)", town.note(-1, 0, 0, 0), UNKNOWN);
        Check.due(25, "note(2, -1, 0, 0)", town.note(2, -1, 0, 0), UNKNOWN);
        int[][] outside = {{-1, 0, 0}, {3001, 3000, 0}, {0, -1, 0}, {0, 3001, 0}, {0, 0, -2}, {0, 0, 100},
            {LEAST, 0, 0}, {0, GREATEST, 0}, {0, 0, GREATEST}, {3001, 3001, 0}};
        for (int[] o : outside) {
            Check.due(25, "note(0, " + o[0] + ", " + o[1] + ", " + o[2] + ")", town.note(0, o[0], o[1], o[2]),
                OUTSIDE);
        }
        Check.due(25, "note(0, 1, 0, 0), of a day to come", town.note(0, 1, 0, 0), NO);
        Check.due(25, "note(0, 0, 0, -1)", town.note(0, 0, 0, -1), 1);
        Check.due(25, "note(1, 5, 5, 99)", town.note(1, 5, 5, 99), 2);
        Check.due(25, "note(0, 4, 4, 0), told on an earlier day", town.note(0, 4, 4, 0), NO);
        Check.due(25, "note(0, 0, 4, 0), of another figure", town.note(0, 0, 4, 0), NO);
        Check.due(25, "note(0, 0, 5, 0), on the same day", town.note(0, 0, 5, 0), 3);
        Check.due(25, "note(0, 7, 6, 0)", town.note(0, 7, 6, 0), NO);
        Check.due(25, "note(0, 3000, 3000, 0)", town.note(0, 3000, 3000, 0), 4);
        Check.due(25, "note(0, 0, 2999, 0)", town.note(0, 0, 2999, 0), NO);
        Check.due(25, "told(9)", town.told(9), 4);
        ModelTown other = new ModelTown();
        other.figure();
        other.note(0, 0, 1, 0);
        Check.due(25, "note(0, 0, 0, 0), told ahead of the only one", other.note(0, 0, 0, 0), NO);
    }

    private static void notesFull() {
        ModelTown town = new ModelTown();
        town.figure();
        for (int n = 1; n <= 60; n++) {
            Check.due(25, "note " + n, town.note(0, n, n, n), n);
        }
        Check.due(25, "note, the 61st", town.note(0, 61, 61, 1), FULL);
        Check.due(25, "note, FULL ahead of NO", town.note(0, 1, 1, 1), FULL);
        Check.due(25, "note, OUTSIDE ahead of FULL", town.note(0, 61, 61, 100), OUTSIDE);
        Check.due(25, "note, UNKNOWN ahead of FULL", town.note(1, 61, 61, 1), UNKNOWN);
        Check.due(25, "told(9)", town.told(9), 60);
        Check.due(26, "where(0, 3000, 3000)", town.where(0, 3000, 3000), 60);
        Check.due(28, "turns(0, 60)", town.turns(0, 60), 60);
    }

    private static void where() {
        ModelTown town = new ModelTown();
        town.figure();
        town.figure();
        town.note(0, 5, 6, 10);
        town.note(1, 5, 6, 77);
        town.note(0, 8, 9, -1);
        town.note(0, 6, 12, 20);
        int[] days = {4, 5, 6, 7, 8, 3000};
        int[] asOfs = {5, 6, 8, 9, 11, 12, 3000};
        int[][] due = {
            {NONE, NONE, NONE, NONE, NONE, NONE, NONE},
            {NONE, 10, 10, 10, 10, 10, 10},
            {NONE, 10, 10, 10, 10, 20, 20},
            {NONE, 10, 10, 10, 10, 20, 20},
            {NONE, 10, 10, -1, -1, -1, -1},
            {NONE, 10, 10, -1, -1, -1, -1}};
        for (int d = 0; d < days.length; d++) {
            for (int a = 0; a < asOfs.length; a++) {
                Check.due(26, "where(0, " + days[d] + ", " + asOfs[a] + ")",
                    town.where(0, days[d], asOfs[a]), due[d][a]);
            }
        }
        Check.due(26, "where(1, 8, 12)", town.where(1, 8, 12), 77);
    }

    private static void whereOfOneDay() {
        ModelTown town = new ModelTown();
        town.figure();
        town.note(0, 3, 3, 1);
        town.note(0, 3, 3, 2);
        Check.due(26, "where(0, 3, 3), the one told last", town.where(0, 3, 3), 2);
        town.note(0, 3, 4, 3);
        Check.due(26, "where(0, 3, 3)", town.where(0, 3, 3), 2);
        Check.due(26, "where(0, 3, 4)", town.where(0, 3, 4), 3);
        town.note(0, 2, 4, 4);
        Check.due(26, "where(0, 3, 4), of the greatest day", town.where(0, 3, 4), 3);
        Check.due(26, "where(0, 2, 4)", town.where(0, 2, 4), 4);
        town.note(0, 0, 5, 0);
        Check.due(26, "where(0, 0, 5)", town.where(0, 0, 5), 0);
        Check.due(26, "where(0, 0, 4)", town.where(0, 0, 4), NONE);
    }

    private static void whereRefuses() {
        ModelTown town = new ModelTown();
        town.figure();
        Check.due(26, "where(-1, 0, 0)", town.where(-1, 0, 0), -101);
        Check.due(26, "where(1, 0, 0)", town.where(1, 0, 0), -101);
        Check.due(26, "where(1, -1, 0)", town.where(1, -1, 0), -101);
        Check.due(26, "where(0, -1, 0)", town.where(0, -1, 0), -102);
        Check.due(26, "where(0, 3001, 0)", town.where(0, 3001, 0), -102);
        Check.due(26, "where(0, 0, -1)", town.where(0, 0, -1), -102);
        Check.due(26, "where(0, 0, 3001)", town.where(0, 0, 3001), -102);
        Check.due(26, "where(0, GREATEST, LEAST)", town.where(0, GREATEST, LEAST), -102);
        Check.due(26, "where(0, 3000, 3000)", town.where(0, 3000, 3000), NONE);
        Check.due(26, "where(0, 0, 0)", town.where(0, 0, 0), NONE);
    }

    private static void at() {
        ModelTown town = new ModelTown();
        for (int f = 0; f < 12; f++) {
            town.figure();
        }
        town.note(0, 5, 6, 10);
        town.note(3, 5, 6, 10);
        town.note(11, 7, 7, 10);
        town.note(1, 7, 7, 0);
        town.note(3, 8, 9, -1);
        town.note(0, 5, 12, -1);
        Check.due(27, "at(10, 5, 5)", town.at(10, 5, 5), 0);
        Check.due(27, "at(10, 4, 6)", town.at(10, 4, 6), 0);
        Check.due(27, "at(10, 5, 6)", town.at(10, 5, 6), 9);
        Check.due(27, "at(10, 7, 7)", town.at(10, 7, 7), 9 + 2048);
        Check.due(27, "at(10, 8, 9)", town.at(10, 8, 9), 1 + 2048);
        Check.due(27, "at(-1, 8, 9)", town.at(-1, 8, 9), 8);
        Check.due(27, "at(-1, 7, 9)", town.at(-1, 7, 9), 0);
        Check.due(27, "at(-1, 8, 12)", town.at(-1, 8, 12), 9);
        Check.due(27, "at(10, 3000, 3000)", town.at(10, 3000, 3000), 2048);
        Check.due(27, "at(0, 7, 7)", town.at(0, 7, 7), 2);
        Check.due(27, "at(99, 7, 7)", town.at(99, 7, 7), 0);
        int[][] outside = {{-2, 0, 0}, {100, 0, 0}, {0, -1, 0}, {0, 3001, 0}, {0, 0, -1}, {0, 0, 3001}, {NONE, 0, 0},
            {LEAST, 0, 0}, {0, GREATEST, 0}};
        for (int[] o : outside) {
            Check.due(27, "at(" + o[0] + ", " + o[1] + ", " + o[2] + ")", town.at(o[0], o[1], o[2]), OUTSIDE);
        }
    }

    private static void turns() {
        ModelTown town = new ModelTown();
        town.figure();
        town.figure();
        Check.due(28, "turns(0, 3000)", town.turns(0, 3000), 0);
        town.note(0, 5, 6, 10);
        town.note(1, 2, 6, 10);
        town.note(0, 8, 9, -1);
        town.note(0, 6, 12, 20);
        town.note(0, 8, 12, 30);
        town.note(1, 1, 12, 4);
        Check.due(28, "turns(0, 4)", town.turns(0, 4), 0);
        Check.due(28, "turns(0, 5)", town.turns(0, 5), 1);
        Check.due(28, "turns(0, 6)", town.turns(0, 6), 2);
        Check.due(28, "turns(0, 7)", town.turns(0, 7), 2);
        Check.due(28, "turns(0, 8)", town.turns(0, 8), 3);
        Check.due(28, "turns(0, 3000)", town.turns(0, 3000), 3);
        Check.due(28, "turns(1, 1)", town.turns(1, 1), 1);
        Check.due(28, "turns(1, 2)", town.turns(1, 2), 1);
        Check.due(28, "turns(0, -1)", town.turns(0, -1), OUTSIDE);
        Check.due(28, "turns(0, 3001)", town.turns(0, 3001), OUTSIDE);
        Check.due(28, "turns(2, 0)", town.turns(2, 0), UNKNOWN);
        Check.due(28, "turns(-1, 3001)", town.turns(-1, 3001), UNKNOWN);
    }

    private static void turnsThereAndBack() {
        ModelTown town = new ModelTown();
        town.figure();
        town.note(0, 3, 3, 1);
        town.note(0, 3, 3, 1);
        Check.due(28, "turns(0, 3), said again", town.turns(0, 3), 1);
        town.note(0, 3, 4, 2);
        town.note(0, 3, 4, 1);
        Check.due(28, "turns(0, 3), there and back on one day", town.turns(0, 3), 3);
        town.note(0, 4, 5, 1);
        Check.due(28, "turns(0, 4), the same place of a later day", town.turns(0, 4), 3);
        town.note(0, 3, 6, -1);
        Check.due(28, "turns(0, 4), of an earlier day", town.turns(0, 4), 3);
        Check.due(28, "turns(0, 3)", town.turns(0, 3), 4);
        town.note(0, 4, 7, -1);
        Check.due(28, "turns(0, 4), gone", town.turns(0, 4), 4);
    }

    private static void told() {
        ModelTown town = new ModelTown();
        town.rule(0, 12, 10);
        for (int i = 0; i < 2; i++) {
            town.thing(0, 1200, 100, 0);
        }
        for (int i = 0; i < 3; i++) {
            town.wall(0, 0, 1);
        }
        for (int i = 0; i < 4; i++) {
            town.week();
        }
        town.hands(5);
        town.ring();
        town.ring();
        town.block(1, 1);
        town.block(1, 2);
        town.train(1, 0, 1);
        town.run(7);
        for (int i = 0; i < 8; i++) {
            town.figure();
        }
        for (int i = 0; i < 9; i++) {
            town.note(0, 0, 0, 0);
        }
        int[] due = {1, 2, 3, 4, 5, 2, 1, 7, 8, 9};
        for (int what = 0; what <= 9; what++) {
            Check.due(29, "told(" + what + ")", town.told(what), due[what]);
        }
        Check.due(29, "told(-1)", town.told(-1), OUTSIDE);
        Check.due(29, "told(10)", town.told(10), OUTSIDE);
        Check.due(29, "told(LEAST)", town.told(LEAST), OUTSIDE);
        Check.due(29, "told(GREATEST)", town.told(GREATEST), OUTSIDE);
    }
}
