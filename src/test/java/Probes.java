/**
 * Tells all that later calls show of a town, so that two towns can be held against each other. A probe changes
 * the town that it tells of (what can't be asked shows by how later calls go on), and keeps under 280 calls.
 */
final class Probes {
    static final int COUNT = 5;

    private static final int[] DAYS = {0, 7, 30, 31, 2999, 3000};
    private static final int[] TOLD_ON = {0, 5, 9, 12, 30};

    private Probes() {
    }

    static String told(int probe, Play town) {
        StringBuilder out = new StringBuilder();
        for (int what = 0; what <= 9; what++) {
            put(out, town, "told", what);
        }
        switch (probe) {
            case 0: scale(out, town); break;
            case 1: walls(out, town); break;
            case 2: weeks(out, town); break;
            case 3: rails(out, town); break;
            default: book(out, town); break;
        }
        return out.toString();
    }

    private static void put(StringBuilder out, Play town, String call, Object... numbers) {
        out.append(town.answer(call, numbers)).append(' ');
    }

    private static void scale(StringBuilder out, Play town) {
        for (int day : DAYS) {
            put(out, town, "force", day, 0);
            put(out, town, "force", day, 1);
            put(out, town, "fault", day);
        }
        for (int thing = 0; thing < 20; thing++) {
            put(out, town, "look", thing, 0, 0);
            put(out, town, "look", thing, 30, 0);
            put(out, town, "look", thing, 3000, 0);
            put(out, town, "look", thing, 0, 1);
            put(out, town, "look", thing, 3000, 2);
            put(out, town, "spoils", thing, 0);
        }
        for (int thing = 0; thing < 20; thing++) {
            put(out, town, "clip", thing, 30, 5);
            put(out, town, "clip", thing, 3000, 6);
        }
        for (int thing = 0; thing < 60; thing++) {
            put(out, town, "clip", 0, 3000, 7);
        }
        for (int rule = 0; rule < 6; rule++) {
            put(out, town, "rule", 0, 2, 0);
        }
        for (int thing = 0; thing < 20; thing++) {
            put(out, town, "thing", 0, 100, 1, 0);
        }
    }

    private static void walls(StringBuilder out, Play town) {
        for (int wall = 0; wall < 24; wall++) {
            for (int what = 0; what <= 4; what++) {
                put(out, town, "wallOf", wall, what);
            }
        }
        for (int what = 0; what <= 2; what++) {
            put(out, town, "foretell", 1, what);
            put(out, town, "foretell", 12, what);
        }
        put(out, town, "enough", 12, 70);
        put(out, town, "hands", 60);
        for (int week = 0; week < 6; week++) {
            put(out, town, "week");
        }
        for (int wall = 0; wall < 24; wall++) {
            put(out, town, "wallOf", wall, 3);
            put(out, town, "wallOf", wall, 4);
        }
        for (int side = 0; side < 4; side++) {
            put(out, town, "fade", side, 1);
        }
        for (int wall = 0; wall < 24; wall++) {
            put(out, town, "wall", 0, 0, 1);
        }
    }

    private static void weeks(StringBuilder out, Play town) {
        for (int week = 0; week < 200; week++) {
            put(out, town, "frost", week, true);
        }
        for (int side = 0; side < 4; side++) {
            put(out, town, "fade", side, 2);
        }
        put(out, town, "foretell", 40, 0);
    }

    private static void rails(StringBuilder out, Play town) {
        put(out, town, "stands");
        trains(out, town);
        for (int minute = 0; minute < 6; minute++) {
            put(out, town, "run", 1);
        }
        for (int train = 0; train < 4; train++) {
            put(out, town, "stick", train, false);
        }
        put(out, town, "run", 50);
        trains(out, town);
        put(out, town, "ring");
        for (int ring = 0; ring < 3; ring++) {
            for (int block = 0; block < 30; block++) {
                put(out, town, "block", ring, block);
            }
            for (int place = 0; place < 12; place += 3) {
                put(out, town, "train", ring, place, 1);
            }
        }
        trains(out, town);
    }

    private static void trains(StringBuilder out, Play town) {
        for (int train = 0; train < 4; train++) {
            for (int what = 0; what <= 7; what++) {
                put(out, town, "trainOf", train, what);
            }
        }
    }

    private static void book(StringBuilder out, Play town) {
        for (int figure = 0; figure < 12; figure++) {
            for (int day : DAYS) {
                put(out, town, "where", figure, day, 3000);
            }
            for (int asOf : TOLD_ON) {
                put(out, town, "where", figure, 3000, asOf);
            }
            put(out, town, "turns", figure, 30);
            put(out, town, "turns", figure, 3000);
        }
        for (int day : DAYS) {
            put(out, town, "at", -1, day, 3000);
            put(out, town, "at", 7, day, 3000);
        }
        for (int figure = 0; figure < 12; figure++) {
            put(out, town, "figure");
        }
        for (int day : DAYS) {
            put(out, town, "note", 0, 0, day, 1);
        }
        for (int note = 0; note < 60; note++) {
            put(out, town, "note", 0, 0, 3000, 2);
        }
    }
}
