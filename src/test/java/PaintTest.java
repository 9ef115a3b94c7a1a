/** Promises 9 to 16: fading, walls, hands, frost, weeks, foretelling. */
public final class PaintTest {
    private static final int NONE = -6, UNKNOWN = -1, OUTSIDE = -2, STATE = -3, FULL = -4, NO = -5;
    private static final int LEAST = Integer.MIN_VALUE, GREATEST = Integer.MAX_VALUE;

    public static void main(String[] args) {
        fades();
        walls();
        wallOf();
        hands();
        frost();
        weekPaintsTheLeastLook();
        weekEndsAtTheFirstTooLong();
        weekNeverPaintsFresh();
        weekFadesDownTo0();
        weeksEnd();
        foretell();
        foretellChangesNothing();
        foretellTies();
        enough();
        enoughIsTheFewest();
        Check.end();
    }

    private static void fades() {
        ModelTown town = new ModelTown();
        int[][] outside = {{-1, 1}, {4, 1}, {0, -1}, {0, 41}, {LEAST, 1}, {0, GREATEST}};
        for (int[] o : outside) {
            Check.due(9, "fade(" + o[0] + ", " + o[1] + ")", town.fade(o[0], o[1]), OUTSIDE);
        }
        for (int side = 0; side < 4; side++) {
            Check.due(9, "fade, the first of side " + side, town.fade(side, 10 * side), 5);
        }
        Check.due(9, "fade(3, 40)", town.fade(3, 40), 30);
        Check.due(9, "fade(3, 0)", town.fade(3, 0), 40);
        Check.due(9, "fade(0, 1)", town.fade(0, 1), 0);
        for (int side = 0; side < 4; side++) {
            town.wall(0, side, 1);
        }
        town.week();
        int[] due = {99, 90, 80, 100};
        for (int side = 0; side < 4; side++) {
            Check.due(9, "wallOf(" + side + ", 3)", town.wallOf(side, 3), due[side]);
        }
    }

    private static void walls() {
        ModelTown town = new ModelTown();
        int[][] outside = {{-1, 0, 1}, {100, 0, 1}, {0, -1, 1}, {0, 4, 1}, {0, 0, 0}, {0, 0, 61},
            {GREATEST, 0, 1}, {0, LEAST, 1}, {0, 0, GREATEST}};
        for (int[] o : outside) {
            Check.due(10, "wall(" + o[0] + ", " + o[1] + ", " + o[2] + ")", town.wall(o[0], o[1], o[2]), OUTSIDE);
        }
        Check.due(10, "told(2)", town.told(2), 0);
        Check.due(10, "wall(0, 0, 1)", town.wall(0, 0, 1), 0);
        Check.due(10, "wall(99, 3, 60)", town.wall(99, 3, 60), 1);
        for (int w = 2; w < 24; w++) {
            Check.due(10, "wall " + w, town.wall(7, 1, 8), w);
        }
        Check.due(10, "wall, the 25th", town.wall(0, 0, 1), FULL);
        Check.due(10, "wall, the 25th, outside", town.wall(0, 0, 0), OUTSIDE);
        Check.due(10, "told(2)", town.told(2), 24);
    }

    private static void wallOf() {
        ModelTown town = new ModelTown();
        town.wall(99, 3, 60);
        town.wall(4, 2, 20);
        int[][] due = {{99, 3, 60, 100, 0}, {4, 2, 20, 100, 0}};
        for (int w = 0; w < 2; w++) {
            for (int what = 0; what <= 4; what++) {
                Check.due(11, "wallOf(" + w + ", " + what + ")", town.wallOf(w, what), due[w][what]);
            }
        }
        Check.due(11, "wallOf(0, -1)", town.wallOf(0, -1), OUTSIDE);
        Check.due(11, "wallOf(0, 5)", town.wallOf(0, 5), OUTSIDE);
        Check.due(11, "wallOf(2, 0)", town.wallOf(2, 0), UNKNOWN);
        Check.due(11, "wallOf(-1, 0)", town.wallOf(-1, 0), UNKNOWN);
        Check.due(11, "wallOf(24, 5)", town.wallOf(24, 5), UNKNOWN);
        town.week();
        town.fade(2, 40);
        town.week();
        Check.due(11, "wallOf(0, 3)", town.wallOf(0, 3), 90);
        Check.due(11, "wallOf(1, 3)", town.wallOf(1, 3), 55);
        town.hands(80);
        town.week();
        Check.due(11, "wallOf(1, 4)", town.wallOf(1, 4), 1);
        Check.due(11, "wallOf(0, 4)", town.wallOf(0, 4), 1);
        town.week();
        Check.due(11, "wallOf(1, 4)", town.wallOf(1, 4), 2);
    }

    private static void hands() {
        ModelTown town = new ModelTown();
        Check.due(12, "hands(-1)", town.hands(-1), OUTSIDE);
        Check.due(12, "hands(501)", town.hands(501), OUTSIDE);
        Check.due(12, "hands(LEAST)", town.hands(LEAST), OUTSIDE);
        Check.due(12, "told(4)", town.told(4), 20);
        Check.due(12, "hands(0)", town.hands(0), 20);
        Check.due(12, "hands(500)", town.hands(500), 0);
        Check.due(12, "hands(7)", town.hands(7), 500);
        Check.due(12, "told(4)", town.told(4), 7);
        town.wall(0, 0, 7);
        town.week();
        Check.due(12, "week() with just the hours", town.week(), 1);
        town.hands(6);
        Check.due(12, "week() with an hour less", town.week(), 0);
    }

    private static void frost() {
        ModelTown town = new ModelTown();
        town.wall(0, 0, 1);
        Check.due(13, "frost(-1, true)", town.frost(-1, true), OUTSIDE);
        Check.due(13, "frost(200, true)", town.frost(200, true), OUTSIDE);
        Check.due(13, "frost(GREATEST, true)", town.frost(GREATEST, true), OUTSIDE);
        Check.due(13, "frost(0, false)", town.frost(0, false), 0);
        Check.due(13, "frost(0, true)", town.frost(0, true), 0);
        Check.due(13, "frost(0, true)", town.frost(0, true), 1);
        Check.due(13, "frost(1, true)", town.frost(1, true), 0);
        Check.due(13, "frost(199, true)", town.frost(199, true), 0);
        Check.due(13, "frost(199, false)", town.frost(199, false), 1);
        Check.due(13, "frost(199, false)", town.frost(199, false), 0);
        Check.due(13, "week() 0", town.week(), 0);
        Check.due(13, "frost(0, false)", town.frost(0, false), NO);
        Check.due(13, "frost(-1, false), OUTSIDE ahead of NO", town.frost(-1, false), OUTSIDE);
        Check.due(13, "week() 1, in frost", town.week(), 0);
        Check.due(13, "frost(2, true)", town.frost(2, true), 0);
        Check.due(13, "frost(2, false)", town.frost(2, false), 1);
        Check.due(13, "week() 2", town.week(), 1);
        Check.due(13, "wallOf(0, 3)", town.wallOf(0, 3), 95);
    }

    private static void weekPaintsTheLeastLook() {
        ModelTown town = new ModelTown();
        town.fade(1, 20);
        town.fade(2, 7);
        town.wall(0, 0, 10);
        town.wall(0, 1, 10);
        town.wall(0, 2, 10);
        town.wall(0, 1, 10);
        town.hands(19);
        Check.due(14, "week() 0", town.week(), 0);
        // looks 95, 80, 93, 80: of the two at 80 the least number
        Check.due(14, "week() 1", town.week(), 1);
        Check.due(14, "wallOf(1, 4)", town.wallOf(1, 4), 1);
        Check.due(14, "wallOf(1, 3)", town.wallOf(1, 3), 80);
        Check.due(14, "wallOf(3, 4)", town.wallOf(3, 4), 0);
        Check.due(14, "wallOf(3, 3)", town.wallOf(3, 3), 60);
        town.hands(39);
        // looks 90, 80, 86, 60: the walls 3, 1, 2
        Check.due(14, "week() 2", town.week(), 3);
        Check.due(14, "wallOf(0, 3)", town.wallOf(0, 3), 85);
        Check.due(14, "wallOf(0, 4)", town.wallOf(0, 4), 0);
        Check.due(14, "wallOf(2, 3)", town.wallOf(2, 3), 93);
        Check.due(14, "told(3)", town.told(3), 3);
    }

    private static void weekEndsAtTheFirstTooLong() {
        ModelTown town = new ModelTown();
        town.fade(1, 20);
        town.wall(0, 1, 21);
        town.wall(0, 0, 1);
        town.week();
        // wall 0 has the least look and takes an hour too long, so wall 1 is not painted either
        Check.due(14, "week() 1", town.week(), 0);
        Check.due(14, "wallOf(1, 3)", town.wallOf(1, 3), 90);
        town.hands(21);
        Check.due(14, "week() 2", town.week(), 1);
        Check.due(14, "wallOf(0, 3)", town.wallOf(0, 3), 80);
        Check.due(14, "wallOf(1, 3)", town.wallOf(1, 3), 85);
    }

    private static void weekNeverPaintsFresh() {
        ModelTown town = new ModelTown();
        town.fade(0, 0);
        town.wall(0, 0, 1);
        town.wall(0, 1, 1);
        town.hands(500);
        Check.due(14, "week() 0", town.week(), 0);
        Check.due(14, "week() 1", town.week(), 1);
        Check.due(14, "wallOf(0, 4)", town.wallOf(0, 4), 0);
        Check.due(14, "wallOf(0, 3)", town.wallOf(0, 3), 100);
    }

    private static void weekFadesDownTo0() {
        ModelTown town = new ModelTown();
        town.fade(0, 40);
        town.fade(1, 25);
        town.hands(0);
        town.wall(0, 0, 1);
        town.wall(0, 1, 1);
        town.fade(2, 33);
        town.wall(0, 2, 1);
        int[][] due = {{60, 75, 67}, {20, 50, 34}, {0, 25, 1}, {0, 0, 0}, {0, 0, 0}};
        for (int w = 0; w < due.length; w++) {
            town.week();
            Check.due(14, "wallOf(0, 3) after week " + w, town.wallOf(0, 3), due[w][0]);
            Check.due(14, "wallOf(1, 3) after week " + w, town.wallOf(1, 3), due[w][1]);
            Check.due(14, "wallOf(2, 3) after week " + w, town.wallOf(2, 3), due[w][2]);
        }
    }

    private static void weeksEnd() {
        ModelTown town = new ModelTown();
        town.wall(0, 0, 20);
        town.frost(199, true);
        for (int w = 0; w < 148; w++) {
            Check.due(14, "week() " + w, town.week(), w == 0 ? 0 : 1);
        }
        Check.due(15, "foretell(52, 0) up to WEEK 199", town.foretell(52, 0), 90);
        Check.due(15, "foretell(52, 1)", town.foretell(52, 1), 199);
        Check.due(16, "enough(52, 90)", town.enough(52, 90), 20);
        town.week();
        Check.due(15, "foretell(52, 0) beyond", town.foretell(52, 0), STATE);
        Check.due(16, "enough(52, 0) beyond", town.enough(52, 0), STATE);
        Check.due(15, "foretell(51, 0)", town.foretell(51, 0), 90);
        for (int w = 149; w < 199; w++) {
            town.week();
        }
        Check.due(13, "frost(198, true)", town.frost(198, true), NO);
        Check.due(15, "foretell(1, 0)", town.foretell(1, 0), 90);
        Check.due(14, "week() 199", town.week(), 0);
        Check.due(14, "told(3)", town.told(3), 200);
        Check.due(14, "week() 200", town.week(), STATE);
        Check.due(14, "told(3)", town.told(3), 200);
        Check.due(14, "wallOf(0, 3)", town.wallOf(0, 3), 90);
        Check.due(13, "frost(199, false)", town.frost(199, false), NO);
        Check.due(15, "foretell(1, 0) in WEEK 200", town.foretell(1, 0), STATE);
        Check.due(16, "enough(1, 0) in WEEK 200", town.enough(1, 0), STATE);
        Check.due(15, "foretell(53, 0)", town.foretell(53, 0), OUTSIDE);
        ModelTown bare = new ModelTown();
        for (int w = 0; w < 200; w++) {
            bare.week();
        }
        Check.due(15, "foretell(1, 0), STATE ahead of NONE", bare.foretell(1, 0), STATE);
        Check.due(16, "enough(1, 0), STATE ahead of NONE", bare.enough(1, 0), STATE);
    }

    private static void foretell() {
        ModelTown town = new ModelTown();
        Check.due(15, "foretell(1, 0) without WALLS", town.foretell(1, 0), NONE);
        Check.due(15, "foretell(0, 0) without WALLS", town.foretell(0, 0), OUTSIDE);
        town.wall(1, 0, 21);
        town.wall(1, 1, 20);
        int[][] outside = {{0, 0}, {53, 0}, {1, -1}, {1, 3}, {LEAST, 0}, {GREATEST, 0}, {-1, 0}};
        for (int[] o : outside) {
            Check.due(15, "foretell(" + o[0] + ", " + o[1] + ")", town.foretell(o[0], o[1]), OUTSIDE);
        }
        // wall 0 takes too long: neither is ever painted, and both fade to 0 in week 19
        Check.due(15, "foretell(1, 0)", town.foretell(1, 0), 95);
        Check.due(15, "foretell(1, 1)", town.foretell(1, 1), 0);
        Check.due(15, "foretell(19, 0)", town.foretell(19, 0), 5);
        Check.due(15, "foretell(52, 0)", town.foretell(52, 0), 0);
        Check.due(15, "foretell(52, 1)", town.foretell(52, 1), 19);
        Check.due(15, "foretell(52, 2)", town.foretell(52, 2), 0);
        town.hands(41);
        town.week();
        Check.due(15, "foretell(3, 0)", town.foretell(3, 0), 95);
        Check.due(15, "foretell(3, 1)", town.foretell(3, 1), 1);
        town.frost(2, true);
        Check.due(15, "foretell(1, 0)", town.foretell(1, 0), 95);
        Check.due(15, "foretell(3, 0)", town.foretell(3, 0), 90);
        Check.due(15, "foretell(3, 1)", town.foretell(3, 1), 2);
    }

    private static void foretellChangesNothing() {
        ModelTown town = new ModelTown();
        ModelTown twin = new ModelTown();
        for (int w = 0; w < 5; w++) {
            town.wall(w, w % 4, 5 + w);
            twin.wall(w, w % 4, 5 + w);
        }
        for (int w = 0; w < 6; w++) {
            town.foretell(52, w % 3);
            town.enough(20, 60 + w);
            Check.due(15, "told(3) after foretelling", town.told(3), w);
            Check.due(16, "told(4) after enough", town.told(4), 20);
            Check.due(15, "week() after foretelling", town.week(), twin.week());
            for (int wall = 0; wall < 5; wall++) {
                Check.due(15, "wallOf(" + wall + ", 3)", town.wallOf(wall, 3), twin.wallOf(wall, 3));
                Check.due(15, "wallOf(" + wall + ", 4)", town.wallOf(wall, 4), twin.wallOf(wall, 4));
            }
        }
    }

    private static void foretellTies() {
        ModelTown town = new ModelTown();
        town.fade(1, 10);
        town.wall(0, 0, 60);
        town.wall(0, 1, 60);
        town.wall(1, 1, 60);
        Check.due(15, "foretell(4, 2)", town.foretell(4, 2), 1);
        Check.due(15, "foretell(4, 0)", town.foretell(4, 0), 60);
        // the look 0 is met first by wall 1 in week 9, though wall 0 meets it later too
        Check.due(15, "foretell(30, 0)", town.foretell(30, 0), 0);
        Check.due(15, "foretell(30, 1)", town.foretell(30, 1), 9);
        Check.due(15, "foretell(30, 2)", town.foretell(30, 2), 1);
        town.fade(0, 0);
        town.fade(1, 0);
        Check.due(15, "foretell(52, 0) of fresh WALLS", town.foretell(52, 0), 100);
        Check.due(15, "foretell(52, 1) of fresh WALLS", town.foretell(52, 1), 0);
        Check.due(15, "foretell(52, 2) of fresh WALLS", town.foretell(52, 2), 0);
    }

    private static void enough() {
        ModelTown town = new ModelTown();
        Check.due(16, "enough(1, 0) without WALLS", town.enough(1, 0), NONE);
        Check.due(16, "enough(0, 0) without WALLS", town.enough(0, 0), OUTSIDE);
        town.wall(0, 0, 60);
        int[][] outside = {{0, 0}, {53, 0}, {1, -1}, {1, 101}, {GREATEST, 0}, {1, LEAST}};
        for (int[] o : outside) {
            Check.due(16, "enough(" + o[0] + ", " + o[1] + ")", town.enough(o[0], o[1]), OUTSIDE);
        }
        Check.due(16, "enough(52, 0)", town.enough(52, 0), 0);
        Check.due(16, "enough(1, 95)", town.enough(1, 95), 0);
        Check.due(16, "enough(2, 95)", town.enough(2, 95), 60);
        Check.due(16, "enough(1, 96)", town.enough(1, 96), NONE);
        Check.due(16, "enough(52, 95)", town.enough(52, 95), 60);
        town.frost(3, true);
        Check.due(16, "enough(3, 95)", town.enough(3, 95), 60);
        Check.due(16, "enough(4, 95)", town.enough(4, 95), NONE);
        Check.due(16, "enough(4, 90)", town.enough(4, 90), 60);
        for (int w = 0; w < 8; w++) {
            town.wall(w, 1, 55);
        }
        // the nine walls need 60 + 8 * 55 = 500 hours
        Check.due(16, "enough(3, 95)", town.enough(3, 95), 500);
        town.wall(9, 2, 1);
        Check.due(16, "enough(3, 95)", town.enough(3, 95), NONE);
        town.fade(0, 0);
        town.fade(1, 0);
        town.fade(2, 0);
        Check.due(16, "enough(52, 100)", town.enough(52, 100), 0);
    }

    /** The fewest hands are found again by foretelling with every number of hands from 0 on. */
    private static void enoughIsTheFewest() {
        java.util.Random random = new java.util.Random(7);
        for (int round = 0; round < 60; round++) {
            ModelTown town = new ModelTown();
            for (int side = 0; side < 4; side++) {
                town.fade(side, random.nextInt(20));
            }
            int walls = 1 + random.nextInt(12);
            for (int w = 0; w < walls; w++) {
                town.wall(random.nextInt(100), random.nextInt(4), 1 + random.nextInt(60));
            }
            for (int w = random.nextInt(6); w > 0; w--) {
                town.week();
            }
            town.frost(town.told(3) + random.nextInt(20), true);
            int n = 1 + random.nextInt(20);
            int look = random.nextInt(101);
            int got = town.enough(n, look);
            int due = NONE;
            for (int hours = 0; hours <= 200 && due == NONE; hours++) {
                town.hands(hours);
                due = town.foretell(n, 0) >= look ? hours : NONE;
            }
            if (due != NONE || got <= 200) {
                Check.due(16, "enough(" + n + ", " + look + ") in round " + round, got, due);
            }
        }
    }
}
