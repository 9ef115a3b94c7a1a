/** Promises 1 to 8: a new object, rules, things, clippings, faults. */
public final class ScaleTest {
    private static final int NONE = -6, UNKNOWN = -1, OUTSIDE = -2, STATE = -3, FULL = -4, NO = -5;
    private static final int HOUSE = 0, TREE = 1, WATER = 2;
    private static final int LEAST = Integer.MIN_VALUE, GREATEST = Integer.MAX_VALUE;

    public static void main(String[] args) {
        newObject();
        rules();
        force();
        things();
        clippings();
        clippingsFull();
        looks();
        grownLooks();
        dueIsCut();
        slackOfGreatDue();
        faultsBySort();
        firstFault();
        spoils();
        Check.end();
    }

    private static void newObject() {
        ModelTown town = new ModelTown();
        for (int what = 0; what <= 9; what++) {
            Check.due(1, "told(" + what + ")", town.told(what), what == 4 ? 20 : 0);
        }
        Check.due(1, "force(0, 0)", town.force(0, 0), 12);
        Check.due(1, "force(3000, 1)", town.force(3000, 1), 10);
        Check.due(1, "look(0, 0, 0)", town.look(0, 0, 0), UNKNOWN);
        Check.due(1, "fault(0)", town.fault(0), NONE);
        Check.due(1, "wallOf(0, 0)", town.wallOf(0, 0), UNKNOWN);
        Check.due(1, "hands(20)", town.hands(20), 20);
        Check.due(1, "frost(0, false)", town.frost(0, false), 0);
        Check.due(1, "frost(199, false)", town.frost(199, false), 0);
        Check.due(1, "block(0, 0)", town.block(0, 0), UNKNOWN);
        Check.due(1, "trainOf(0, 0)", town.trainOf(0, 0), UNKNOWN);
        Check.due(1, "stands()", town.stands(), 0);
        Check.due(1, "where(0, 0, 0)", town.where(0, 0, 0), -101);
        Check.due(1, "at(0, 3000, 3000)", town.at(0, 3000, 3000), 0);
        Check.due(1, "at(-1, 3000, 3000)", town.at(-1, 3000, 3000), 0);
        ModelTown other = new ModelTown();
        town.figure();
        Check.due(1, "told(8) of another object", other.told(8), 0);
    }

    private static void rules() {
        ModelTown town = new ModelTown();
        Check.due(2, "rule(-1, 12, 0)", town.rule(-1, 12, 0), OUTSIDE);
        Check.due(2, "rule(3001, 12, 0)", town.rule(3001, 12, 0), OUTSIDE);
        Check.due(2, "rule(0, 1, 0)", town.rule(0, 1, 0), OUTSIDE);
        Check.due(2, "rule(0, 0, 0)", town.rule(0, 0, 0), OUTSIDE);
        Check.due(2, "rule(0, 31, 0)", town.rule(0, 31, 0), OUTSIDE);
        Check.due(2, "rule(0, 12, -1)", town.rule(0, 12, -1), OUTSIDE);
        Check.due(2, "rule(0, 12, 51)", town.rule(0, 12, 51), OUTSIDE);
        Check.due(2, "rule(LEAST, 12, 0)", town.rule(LEAST, 12, 0), OUTSIDE);
        Check.due(2, "rule(0, GREATEST, 0)", town.rule(0, GREATEST, 0), OUTSIDE);
        Check.due(2, "told(0)", town.told(0), 0);
        Check.due(2, "rule(0, 2, 0)", town.rule(0, 2, 0), 1);
        Check.due(2, "rule(3000, 30, 50)", town.rule(3000, 30, 50), 2);
        for (int r = 3; r <= 6; r++) {
            Check.due(2, "rule " + r, town.rule(100, r, r), r);
        }
        Check.due(2, "rule, the 7th", town.rule(100, 20, 20), FULL);
        Check.due(2, "rule, the 7th, outside", town.rule(100, 31, 20), OUTSIDE);
        Check.due(2, "told(0)", town.told(0), 6);
        Check.due(2, "force(100, 0)", town.force(100, 0), 6);
    }

    private static void force() {
        ModelTown town = new ModelTown();
        town.rule(50, 20, 0);
        town.rule(10, 9, 50);
        Check.due(3, "force(9, 0)", town.force(9, 0), 12);
        Check.due(3, "force(9, 1)", town.force(9, 1), 10);
        Check.due(3, "force(10, 0)", town.force(10, 0), 9);
        Check.due(3, "force(10, 1)", town.force(10, 1), 50);
        Check.due(3, "force(49, 0)", town.force(49, 0), 9);
        Check.due(3, "force(50, 0)", town.force(50, 0), 20);
        Check.due(3, "force(50, 1)", town.force(50, 1), 0);
        Check.due(3, "force(3000, 0)", town.force(3000, 0), 20);
        town.rule(50, 7, 7);
        town.rule(10, 8, 8);
        Check.due(3, "force(50, 0)", town.force(50, 0), 7);
        Check.due(3, "force(50, 1)", town.force(50, 1), 7);
        Check.due(3, "force(49, 0)", town.force(49, 0), 8);
        town.rule(0, 2, 1);
        Check.due(3, "force(0, 0)", town.force(0, 0), 2);
        Check.due(3, "force(10, 0)", town.force(10, 0), 8);
        Check.due(3, "force(-1, 0)", town.force(-1, 0), OUTSIDE);
        Check.due(3, "force(3001, 0)", town.force(3001, 0), OUTSIDE);
        Check.due(3, "force(0, -1)", town.force(0, -1), OUTSIDE);
        Check.due(3, "force(0, 2)", town.force(0, 2), OUTSIDE);
        Check.due(3, "force(GREATEST, 1)", town.force(GREATEST, 1), OUTSIDE);
    }

    private static void things() {
        ModelTown town = new ModelTown();
        int[][] outside = {
            {-1, 100, 1, 0}, {3, 100, 1, 0}, {0, 99, 1, 0}, {0, 60001, 1, 0}, {0, 100, 0, 0}, {0, 100, 9001, 0},
            {1, 100, 1, -1}, {1, 100, 1, 51}, {0, 100, 1, 51}, {2, 100, 1, -1},
            {LEAST, 100, 1, 0}, {0, GREATEST, 1, 0}, {0, 100, LEAST, 0}, {1, 100, 1, GREATEST}};
        for (int[] o : outside) {
            Check.due(4, "thing(" + o[0] + ", " + o[1] + ", " + o[2] + ", " + o[3] + ")",
                town.thing(o[0], o[1], o[2], o[3]), OUTSIDE);
        }
        Check.due(4, "told(1)", town.told(1), 0);
        Check.due(4, "thing, all least", town.thing(HOUSE, 100, 1, 0), 0);
        Check.due(4, "thing, all greatest", town.thing(WATER, 60000, 9000, 50), 1);
        for (int t = 2; t < 20; t++) {
            Check.due(4, "thing " + t, town.thing(TREE, 1000, 100 + t, 50), t);
        }
        Check.due(4, "thing, the 21st", town.thing(HOUSE, 100, 1, 0), FULL);
        Check.due(4, "thing, the 21st, outside", town.thing(HOUSE, 99, 1, 0), OUTSIDE);
        Check.due(4, "told(1)", town.told(1), 20);
        Check.due(4, "look(19, 0, 0)", town.look(19, 0, 0), 119);
        Check.due(4, "look(1, 3000, 0)", town.look(1, 3000, 0), 9000);
    }

    private static void clippings() {
        ModelTown town = new ModelTown();
        town.thing(HOUSE, 9000, 700, 9);
        town.thing(TREE, 9000, 700, 20);
        town.thing(WATER, 9000, 700, 9);
        town.thing(TREE, 9000, 300, 1);
        Check.due(5, "clip(-1, 0, 1)", town.clip(-1, 0, 1), UNKNOWN);
        Check.due(5, "clip(4, 0, 1)", town.clip(4, 0, 1), UNKNOWN);
        Check.due(5, "clip(4, -1, 0)", town.clip(4, -1, 0), UNKNOWN);
        Check.due(5, "clip(0, -1, 1)", town.clip(0, -1, 1), OUTSIDE);
        Check.due(5, "clip(1, 3001, 1)", town.clip(1, 3001, 1), OUTSIDE);
        Check.due(5, "clip(1, 0, 0)", town.clip(1, 0, 0), OUTSIDE);
        Check.due(5, "clip(1, 0, 9001)", town.clip(1, 0, 9001), OUTSIDE);
        Check.due(5, "clip(0, 0, 1)", town.clip(0, 0, 1), STATE);
        Check.due(5, "clip(2, 0, 1)", town.clip(2, 0, 1), STATE);
        Check.due(5, "clip(1, 30, 100)", town.clip(1, 30, 100), 780);
        Check.due(5, "clip(1, 29, 100)", town.clip(1, 29, 100), NO);
        Check.due(5, "clip(3, 29, 9000)", town.clip(3, 29, 9000), 304);
        Check.due(5, "clip(1, 30, 60)", town.clip(1, 30, 60), 100);
        Check.due(5, "clip(1, 44, 9000)", town.clip(1, 44, 9000), 100);
        Check.due(5, "look(1, 29, 0)", town.look(1, 29, 0), 780);
        Check.due(5, "look(1, 30, 0)", town.look(1, 30, 0), 60);
        Check.due(5, "look(1, 43, 0)", town.look(1, 43, 0), 80);
        Check.due(5, "look(1, 44, 0)", town.look(1, 44, 0), 9000);
        Check.due(5, "look(1, 51, 0)", town.look(1, 51, 0), 9020);
        Check.due(5, "look(3, 36, 0)", town.look(3, 36, 0), 9001);
        Check.due(5, "clip(1, 3000, 1)", town.clip(1, 3000, 1), 9000 + 20 * 422);
        Check.due(5, "clip(1, 2999, 1)", town.clip(1, 2999, 1), NO);
        Check.due(5, "look(1, 3000, 0)", town.look(1, 3000, 0), 1);
    }

    private static void clippingsFull() {
        ModelTown town = new ModelTown();
        town.thing(TREE, 9000, 700, 7);
        town.thing(TREE, 9000, 800, 7);
        town.thing(HOUSE, 9000, 800, 7);
        for (int c = 0; c < 60; c++) {
            int due = c < 2 ? 700 + 100 * c : 100 + c - 2;
            Check.due(5, "clip, number " + c, town.clip(c % 2, 5, 100 + c), due);
        }
        Check.due(5, "clip, the 61st", town.clip(0, 5, 1), FULL);
        Check.due(5, "clip, the 61st, its DAY ahead", town.clip(0, 4, 1), FULL);
        Check.due(5, "clip, the 61st, of a house", town.clip(2, 5, 1), STATE);
        Check.due(5, "clip, the 61st, outside", town.clip(0, 5, 0), OUTSIDE);
        Check.due(5, "look(0, 5, 0)", town.look(0, 5, 0), 158);
        Check.due(5, "look(1, 12, 0)", town.look(1, 12, 0), 166);
        Check.due(5, "look(1, 4, 0)", town.look(1, 4, 0), 800);
    }

    private static void looks() {
        ModelTown town = new ModelTown();
        town.thing(HOUSE, 9000, 830, 9);
        Check.due(6, "look(0, 0, 0)", town.look(0, 0, 0), 830);
        Check.due(6, "look(0, 0, 1)", town.look(0, 0, 1), 750);
        Check.due(6, "look(0, 0, 2)", town.look(0, 0, 2), 1);
        Check.due(6, "look(0, 3000, 0)", town.look(0, 3000, 0), 830);
        Check.due(6, "look(0, 0, -1)", town.look(0, 0, -1), OUTSIDE);
        Check.due(6, "look(0, 0, 3)", town.look(0, 0, 3), OUTSIDE);
        Check.due(6, "look(0, -1, 0)", town.look(0, -1, 0), OUTSIDE);
        Check.due(6, "look(0, 3001, 0)", town.look(0, 3001, 0), OUTSIDE);
        Check.due(6, "look(1, 0, 0)", town.look(1, 0, 0), UNKNOWN);
        Check.due(6, "look(-1, 0, 0)", town.look(-1, 0, 0), UNKNOWN);
        Check.due(6, "look(1, 3001, 3)", town.look(1, 3001, 3), UNKNOWN);
        Check.due(6, "look(GREATEST, 0, 0)", town.look(GREATEST, 0, 0), UNKNOWN);
        town.rule(100, 11, 2);
        Check.due(6, "look(0, 99, 1)", town.look(0, 99, 1), 750);
        Check.due(6, "look(0, 100, 1)", town.look(0, 100, 1), 818);
        Check.due(6, "look(0, 99, 2)", town.look(0, 99, 2), 1);
        Check.due(6, "look(0, 100, 2)", town.look(0, 100, 2), 0);
    }

    private static void grownLooks() {
        ModelTown town = new ModelTown();
        town.thing(TREE, 9000, 700, 20);
        town.thing(HOUSE, 9000, 700, 20);
        town.thing(WATER, 9000, 700, 20);
        town.thing(TREE, 60000, 9000, 50);
        int[] days = {0, 6, 7, 13, 14, 3000};
        int[] due = {700, 700, 720, 720, 740, 700 + 20 * 428};
        for (int d = 0; d < days.length; d++) {
            Check.due(6, "look(0, " + days[d] + ", 0)", town.look(0, days[d], 0), due[d]);
            Check.due(6, "look(1, " + days[d] + ", 0)", town.look(1, days[d], 0), 700);
            Check.due(6, "look(2, " + days[d] + ", 0)", town.look(2, days[d], 0), 700);
        }
        Check.due(6, "look(3, 3000, 0)", town.look(3, 3000, 0), 9000 + 50 * 428);
        // seven whole days count from the clipping on, not from day 0
        town.clip(0, 10, 100);
        Check.due(6, "look(0, 16, 0)", town.look(0, 16, 0), 100);
        Check.due(6, "look(0, 17, 0)", town.look(0, 17, 0), 120);
        Check.due(6, "look(0, 9, 0)", town.look(0, 9, 0), 720);
    }

    private static void dueIsCut() {
        ModelTown town = new ModelTown();
        town.rule(0, 7, 0);
        town.thing(HOUSE, 104, 14, 0);
        Check.due(6, "look(0, 0, 1)", town.look(0, 0, 1), 14);
        Check.due(6, "look(0, 0, 2)", town.look(0, 0, 2), 0);
        // DUE 14 by slack 50: 7 up and down; by slack 49: 6.86, so no more than 6
        town.rule(10, 7, 50);
        town.rule(20, 7, 49);
        town.thing(HOUSE, 104, 21, 0);
        town.thing(HOUSE, 104, 22, 0);
        town.thing(HOUSE, 104, 7, 0);
        town.thing(HOUSE, 104, 6, 0);
        town.thing(HOUSE, 104, 20, 0);
        town.thing(HOUSE, 104, 8, 0);
        int[] atSlack50 = {0, 1, 0, 2, 0, 0};
        int[] atSlack49 = {1, 1, 2, 2, 0, 0};
        for (int t = 1; t <= 6; t++) {
            Check.due(6, "look(" + t + ", 10, 2)", town.look(t, 10, 2), atSlack50[t - 1]);
            Check.due(6, "look(" + t + ", 20, 2)", town.look(t, 20, 2), atSlack49[t - 1]);
        }
    }

    private static void slackOfGreatDue() {
        ModelTown town = new ModelTown();
        town.rule(0, 10, 50);
        town.thing(HOUSE, 60000, 3000, 0);
        town.thing(HOUSE, 60000, 2999, 0);
        town.thing(TREE, 60000, 8950, 50);
        Check.due(6, "look(0, 0, 2)", town.look(0, 0, 2), 0);
        Check.due(6, "look(1, 0, 2)", town.look(1, 0, 2), 2);
        Check.due(6, "look(2, 13, 2), just 9000", town.look(2, 13, 2), 0);
        Check.due(6, "look(2, 14, 2), 9050", town.look(2, 14, 2), 1);
    }

    private static void faultsBySort() {
        ModelTown town = new ModelTown();
        int[] sizes = {674, 675, 825, 826, 1, 9000};
        int[][] due = {{2, 0, 0, 1, 2, 1}, {0, 0, 0, 1, 0, 1}, {2, 0, 0, 0, 2, 0}};
        int number = 0;
        for (int sort = HOUSE; sort <= WATER; sort++) {
            for (int s = 0; s < sizes.length; s++) {
                town.thing(sort, 9000, sizes[s], 0);
                Check.due(6, "look, FAULT of sort " + sort + ", size " + sizes[s],
                    town.look(number, 0, 2), due[sort][s]);
                number++;
            }
        }
    }

    private static void firstFault() {
        ModelTown town = new ModelTown();
        Check.due(7, "fault(0)", town.fault(0), NONE);
        town.thing(HOUSE, 9000, 750, 0);
        town.thing(TREE, 9000, 750, 50);
        town.thing(WATER, 9000, 1, 0);
        town.thing(HOUSE, 9000, 1, 0);
        Check.due(7, "fault(0)", town.fault(0), 2);
        Check.due(7, "fault(13)", town.fault(13), 2);
        Check.due(7, "fault(14)", town.fault(14), 1);
        Check.due(7, "fault(3000)", town.fault(3000), 1);
        Check.due(7, "fault(-1)", town.fault(-1), OUTSIDE);
        Check.due(7, "fault(3001)", town.fault(3001), OUTSIDE);
        town.rule(14, 30, 50);
        Check.due(7, "fault(14)", town.fault(14), 0);
        ModelTown fair = new ModelTown();
        for (int t = 0; t < 20; t++) {
            fair.thing(t % 3, 9000, 750, 0);
        }
        Check.due(7, "fault(0) of 20 fair things", fair.fault(0), NONE);
    }

    private static void spoils() {
        ModelTown town = new ModelTown();
        town.thing(TREE, 9000, 700, 20);
        Check.due(8, "spoils(0, 0)", town.spoils(0, 0), 49);
        Check.due(8, "spoils(0, 49)", town.spoils(0, 49), 49);
        Check.due(8, "spoils(0, 50)", town.spoils(0, 50), 50);
        town.clip(0, 60, 100);
        // fair again from the clipping on: 100 + 20 * 37 = 840 is above 825
        Check.due(8, "spoils(0, 60)", town.spoils(0, 60), 60 + 37 * 7);
        Check.due(8, "spoils(0, 59)", town.spoils(0, 59), 59);
        town.thing(HOUSE, 9000, 750, 0);
        Check.due(8, "spoils(1, 0)", town.spoils(1, 0), NONE);
        Check.due(8, "spoils(1, 3000)", town.spoils(1, 3000), NONE);
        town.rule(3000, 30, 0);
        Check.due(8, "spoils(1, 0)", town.spoils(1, 0), 3000);
        Check.due(8, "spoils(1, 3000)", town.spoils(1, 3000), 3000);
        Check.due(8, "spoils(1, -1)", town.spoils(1, -1), OUTSIDE);
        Check.due(8, "spoils(1, 3001)", town.spoils(1, 3001), OUTSIDE);
        Check.due(8, "spoils(2, 0)", town.spoils(2, 0), UNKNOWN);
        Check.due(8, "spoils(-1, 3001)", town.spoils(-1, 3001), UNKNOWN);
        town.thing(HOUSE, 9000, 830, 0);
        Check.due(8, "spoils(2, 0)", town.spoils(2, 0), 0);
        town.rule(0, 11, 2);
        Check.due(8, "spoils(2, 0)", town.spoils(2, 0), 3000);
    }
}
