import java.io.IOException;

/** Promises 9 to 16, sentence by sentence: each boundary case that the document names. */
public final class PaintEdgesTest {
    private static final int NONE = -6, UNKNOWN = -1, OUTSIDE = -2, STATE = -3, FULL = -4, NO = -5;
    private static final Object IT = Play.IT;

    public static void main(String[] args) throws IOException {
        Edges.run(PaintEdgesTest.class, 9, 16);
    }

    // ---- 9: fade

    @Sentence("a SIDE (0 to 3: each has FADE, 0 to 40 a WEEK, 5 at first)")
    private static void promise9SideFrom0To3() {
        Play play = new Play();
        play.due(5, "fade", 0, 1);
        play.due(5, "fade", 3, 1);
        play.outside(0, 3, "fade", IT, 7);
    }

    @Sentence("a SIDE (0 to 3: each has FADE, 0 to 40 a WEEK, 5 at first)")
    private static void promise9FadeFrom0To40() {
        Play play = new Play();
        play.due(5, "fade", 0, 0);
        play.due(0, "fade", 0, 40);
        play.outside(0, 40, "fade", 0, IT);
        play.due(40, "fade", 0, 40);
    }

    @Sentence("a SIDE (0 to 3: each has FADE, 0 to 40 a WEEK, 5 at first)")
    private static void promise9FadeIs5AtFirst() {
        Play play = new Play();
        for (int side = 0; side < 4; side++) {
            play.call("wall", 0, side, 60);
        }
        play.call("week");
        for (int side = 0; side < 4; side++) {
            play.due(95, "wallOf", side, 3);
            play.due(5, "fade", side, 5);
        }
    }

    @Sentence("FADE of a SIDE: which it was.")
    private static void promise9WhichItWasOfThatSide() {
        Play play = new Play();
        play.due(5, "fade", 2, 40);
        play.due(40, "fade", 2, 0);
        play.due(0, "fade", 2, 17);
        play.refused(OUTSIDE, "fade", 2, 41);
        play.due(17, "fade", 2, 17);
        play.due(5, "fade", 1, 5);
        play.due(5, "fade", 3, 5);
    }

    @Sentence("They change nothing.")
    private static void promise9RefusedCallsChangeNothing() {
        Play play = Play.livedIn();
        play.refused(OUTSIDE, "fade", 4, 40);
        play.refused(OUTSIDE, "fade", 1, 41);
    }

    // ---- 10: wall

    @Sentence("a house (any number 0 to 99)")
    private static void promise10HouseFrom0To99() {
        Play play = new Play();
        play.due(0, "wall", 0, 0, 1);
        play.due(1, "wall", 99, 0, 1);
        play.due(0, "wallOf", 0, 0);
        play.due(99, "wallOf", 1, 0);
        play.outside(0, 99, "wall", IT, 0, 1);
    }

    @Sentence("a house (any number 0 to 99)")
    private static void promise10AnyNumberAndTheSameAgain() {
        Play play = new Play();
        play.due(0, "wall", 7, 2, 3);
        play.due(1, "wall", 7, 2, 3);
        play.due(2, "told", 2);
    }

    @Sentence("a SIDE (0 to 3")
    private static void promise10SideFrom0To3() {
        Play play = new Play();
        play.due(0, "wall", 0, 0, 1);
        play.due(1, "wall", 0, 3, 1);
        play.due(3, "wallOf", 1, 1);
        play.outside(0, 3, "wall", 0, IT, 1);
    }

    @Sentence("HOURS that it takes to paint (1 to 60)")
    private static void promise10HoursFrom1To60() {
        Play play = new Play();
        play.due(0, "wall", 0, 0, 1);
        play.due(1, "wall", 0, 0, 60);
        play.due(1, "wallOf", 0, 2);
        play.due(60, "wallOf", 1, 2);
        play.outside(1, 60, "wall", 0, 0, IT);
    }

    @Sentence("WALLS, 24 at most, numbered from 0 on")
    private static void promise10WallsTwentyFourAtMost() {
        Play play = new Play();
        for (int wall = 0; wall < 24; wall++) {
            play.due(wall, "wall", 50 + wall, wall % 4, 1 + wall);
        }
        play.refused(FULL, "wall", 0, 0, 1);
        play.refused(FULL, "wall", 99, 3, 60);
        play.due(24, "told", 2);
        play.due(73, "wallOf", 23, 0);
    }

    @Sentence("A WALL: its number.")
    private static void promise10RefusedOnesTakeNoNumber() {
        Play play = new Play();
        play.refused(OUTSIDE, "wall", 100, 0, 1);
        play.due(0, "wall", 0, 0, 1);
        play.refused(OUTSIDE, "wall", 0, 0, 61);
        play.due(1, "wall", 0, 0, 1);
    }

    @Sentence("the first of these that fits")
    private static void promise10OutsideAheadOfFull() {
        Play play = new Play();
        play.times(24, "wall", 0, 0, 1);
        play.refused(OUTSIDE, "wall", 100, 0, 1);
        play.refused(OUTSIDE, "wall", 0, 4, 1);
        play.refused(OUTSIDE, "wall", 0, 0, 0);
    }

    @Sentence("They change nothing.")
    private static void promise10RefusedCallsChangeNothing() {
        Play play = Play.livedIn();
        play.refused(OUTSIDE, "wall", 100, 0, 1);
        play.refused(OUTSIDE, "wall", 0, 4, 1);
        play.refused(OUTSIDE, "wall", 0, 0, 61);
        Play full = Play.full();
        full.refused(FULL, "wall", 0, 0, 1);
    }

    // ---- 11: wallOf

    @Sentence("(there is no such THING, WALL,")
    private static void promise11UnknownWall() {
        Play play = new Play();
        play.unknown(0, "wallOf", IT, 0);
        play.call("wall", 0, 0, 1);
        play.unknown(1, "wallOf", IT, 0);
        play.times(23, "wall", 8, 0, 1);
        play.idle(8, "wallOf", 23, 0);
        play.unknown(24, "wallOf", IT, 0);
    }

    @Sentence("0 house, 1 SIDE, 2 HOURS, 3 LOOK, 4 times it was painted.")
    private static void promise11What0To4() {
        Play play = new Play();
        play.call("wall", 99, 3, 60);
        int[] due = {99, 3, 60, 100, 0};
        for (int what = 0; what <= 4; what++) {
            play.idle(due[what], "wallOf", 0, what);
        }
        play.outside(0, 4, "wallOf", 0, IT);
    }

    @Sentence("LOOK is 100 at first.")
    private static void promise11LookIs100AtFirst() {
        Play play = new Play();
        play.call("fade", 0, 40);
        play.due(0, "wall", 0, 0, 60);
        play.due(100, "wallOf", 0, 3);
        play.call("week");
        play.due(60, "wallOf", 0, 3);
        // also of a wall that comes later
        play.due(1, "wall", 0, 0, 60);
        play.due(100, "wallOf", 1, 3);
        play.due(60, "wallOf", 0, 3);
    }

    @Sentence("4 times it was painted.")
    private static void promise11TimesItWasPainted() {
        Play play = new Play();
        play.call("wall", 0, 0, 20);
        play.call("wall", 0, 1, 20);
        play.call("week");
        play.due(0, "wallOf", 0, 4);
        // of two alike the least number, and then the other, which is more faded
        play.call("week");
        play.due(1, "wallOf", 0, 4);
        play.due(0, "wallOf", 1, 4);
        play.call("week");
        play.due(1, "wallOf", 0, 4);
        play.due(1, "wallOf", 1, 4);
    }

    @Sentence("the first of these that fits")
    private static void promise11UnknownAheadOfOutside() {
        Play play = new Play();
        play.call("wall", 0, 0, 20);
        play.refused(UNKNOWN, "wallOf", 1, 5);
        play.refused(UNKNOWN, "wallOf", -1, -1);
    }

    @Sentence("They change nothing.")
    private static void promise11RefusedCallsChangeNothing() {
        Play play = Play.livedIn();
        play.refused(UNKNOWN, "wallOf", 3, 0);
        play.refused(OUTSIDE, "wallOf", 0, 5);
    }

    // ---- 12: hands

    @Sentence("(hours in all, 0 to 500; 20 at first)")
    private static void promise12HoursFrom0To500() {
        Play play = new Play();
        play.due(20, "hands", 0);
        play.due(0, "hands", 500);
        play.outside(0, 500, "hands", IT);
        play.due(500, "told", 4);
    }

    @Sentence("HANDS: which they were.")
    private static void promise12WhichTheyWere() {
        Play play = new Play();
        play.due(20, "hands", 20);
        play.due(20, "hands", 7);
        play.refused(OUTSIDE, "hands", 501);
        play.refused(OUTSIDE, "hands", -1);
        play.due(7, "hands", 8);
        play.due(8, "told", 4);
    }

    @Sentence("They change nothing.")
    private static void promise12RefusedCallsChangeNothing() {
        Play play = Play.livedIn();
        play.refused(OUTSIDE, "hands", 501);
        play.refused(OUTSIDE, "hands", -1);
    }

    // ---- 13: frost

    @Sentence("some are FROST (0 to 199)")
    private static void promise13WeekFrom0To199() {
        Play play = new Play();
        play.due(0, "frost", 0, true);
        play.due(0, "frost", 199, true);
        play.outside(0, 199, "frost", IT, true);
        play.outside(0, 199, "frost", IT, false);
    }

    @Sentence("A WEEK is FROST, or not: whether it was (1, 0).")
    private static void promise13WhetherItWas() {
        Play play = new Play();
        play.due(0, "frost", 9, false);
        play.due(0, "frost", 9, true);
        play.due(1, "frost", 9, true);
        play.due(1, "frost", 9, false);
        play.due(0, "frost", 9, false);
        play.call("frost", 9, true);
        play.due(0, "frost", 8, false);
        play.due(0, "frost", 10, false);
    }

    @Sentence("NO: it is over.")
    private static void promise13WeeksThatAreOver() {
        Play play = new Play();
        play.call("wall", 0, 0, 1);
        play.due(0, "frost", 0, false);
        play.call("week");
        play.refused(NO, "frost", 0, true);
        play.refused(NO, "frost", 0, false);
        // the week that is now is not over
        play.due(0, "frost", 1, true);
        play.due(0, "week");
        play.refused(NO, "frost", 1, false);
        play.due(0, "frost", 2, false);
        play.due(1, "week");
    }

    @Sentence("NO: it is over.")
    private static void promise13TheLastWeek() {
        Play play = new Play();
        play.times(199, "week");
        play.refused(NO, "frost", 198, true);
        play.due(0, "frost", 199, true);
        play.due(1, "frost", 199, true);
        play.call("week");
        play.refused(NO, "frost", 199, false);
        play.refused(NO, "frost", 0, false);
    }

    @Sentence("the first of these that fits")
    private static void promise13OutsideAheadOfNo() {
        Play play = new Play();
        play.times(200, "week");
        play.refused(OUTSIDE, "frost", -1, true);
        play.refused(OUTSIDE, "frost", 200, true);
    }

    @Sentence("They change nothing.")
    private static void promise13RefusedCallsChangeNothing() {
        Play play = Play.livedIn();
        play.refused(OUTSIDE, "frost", 200, true);
        play.refused(OUTSIDE, "frost", -1, true);
        play.refused(NO, "frost", 2, true);
        Play old = Play.old();
        old.refused(NO, "frost", 199, true);
    }

    // ---- 14: week

    @Sentence("WEEKS are numbered from 0")
    private static void promise14WeeksAreNumberedFrom0() {
        Play play = new Play();
        play.due(0, "told", 3);
        play.call("wall", 0, 0, 1);
        play.call("week");
        play.due(1, "told", 3);
        play.call("frost", 1, true);
        // WEEK 1 is the second one, and it is frost
        play.due(0, "week");
        play.due(1, "week");
        play.due(3, "told", 3);
    }

    @Sentence("STATE: WEEK 200 is now.")
    private static void promise14Week200IsNow() {
        Play play = new Play();
        play.call("wall", 0, 0, 20);
        for (int week = 0; week < 200; week++) {
            play.due(week == 0 ? 0 : 1, "week");
        }
        play.due(200, "told", 3);
        play.refused(STATE, "week");
        play.due(95, "wallOf", 0, 3);
        play.due(199, "wallOf", 0, 4);
    }

    @Sentence("A WEEK goes: how many WALLS were painted.")
    private static void promise14NoWalls() {
        Play play = new Play();
        play.due(0, "week");
        play.due(1, "told", 3);
    }

    @Sentence("A WEEK goes: how many WALLS were painted.")
    private static void promise14AllWallsAndAllButOne() {
        Play play = new Play();
        play.call("hands", 500);
        play.times(24, "wall", 0, 0, 20);
        play.due(0, "week");
        play.due(24, "week");
        Play more = new Play();
        more.call("hands", 500);
        more.times(24, "wall", 0, 0, 21);
        more.due(0, "week");
        more.due(23, "week");
        more.due(95, "wallOf", 22, 3);
        more.due(90, "wallOf", 23, 3);
    }

    @Sentence("first, if it is no FROST, HANDS (hours in all, 0 to 500; 20 at first) paint WALLS")
    private static void promise14NoPaintingInFrost() {
        Play play = new Play();
        play.call("wall", 0, 0, 1);
        play.call("frost", 1, true);
        play.call("frost", 2, true);
        play.call("frost", 2, false);
        play.call("week");
        play.due(0, "week");
        play.due(90, "wallOf", 0, 3);
        play.due(0, "wallOf", 0, 4);
        play.due(1, "week");
        play.due(95, "wallOf", 0, 3);
    }

    @Sentence("the one with the least LOOK first (of several the least number)")
    private static void promise14LeastLookFirst() {
        Play play = new Play();
        play.call("fade", 1, 6);
        play.call("wall", 0, 0, 20);
        play.call("wall", 0, 1, 20);
        play.call("week");
        // 95 and 94
        play.due(1, "week");
        play.due(0, "wallOf", 0, 4);
        play.due(1, "wallOf", 1, 4);
    }

    @Sentence("the one with the least LOOK first (of several the least number)")
    private static void promise14OfSeveralTheLeastNumber() {
        Play play = new Play();
        play.call("wall", 0, 0, 10);
        play.call("wall", 0, 1, 10);
        play.call("wall", 0, 2, 10);
        play.call("week");
        play.due(2, "week");
        play.due(1, "wallOf", 0, 4);
        play.due(1, "wallOf", 1, 4);
        play.due(0, "wallOf", 2, 4);
    }

    @Sentence("each once")
    private static void promise14EachOnceAWeek() {
        Play play = new Play();
        play.call("fade", 0, 40);
        play.call("hands", 500);
        play.call("wall", 0, 0, 1);
        play.call("week");
        play.due(1, "week");
        play.due(1, "wallOf", 0, 4);
        play.due(60, "wallOf", 0, 3);
    }

    @Sentence("as long as HOURS are left for it")
    private static void promise14JustTheHoursAndOneLess() {
        Play play = new Play();
        play.call("hands", 60);
        play.call("wall", 0, 0, 31);
        play.call("wall", 0, 0, 29);
        play.call("week");
        play.due(2, "week");
        play.call("hands", 59);
        play.due(1, "week");
        play.call("hands", 29);
        // wall 1 is the more faded one now
        play.due(1, "week");
        play.due(2, "wallOf", 1, 4);
        play.call("hands", 30);
        play.due(0, "week");
    }

    @Sentence("as long as HOURS are left for it")
    private static void promise14NoHoursAtAll() {
        Play play = new Play();
        play.call("hands", 0);
        play.call("wall", 0, 0, 1);
        play.call("week");
        play.due(0, "week");
        play.call("hands", 1);
        play.due(1, "week");
    }

    @Sentence("painted by hands a week")
    private static void promise14HoursBeginAgainEachWeek() {
        Play play = new Play();
        play.call("wall", 0, 0, 21);
        for (int week = 0; week < 4; week++) {
            play.due(0, "week");
        }
        Play other = new Play();
        other.call("wall", 0, 0, 20);
        other.call("week");
        for (int week = 0; week < 4; week++) {
            other.due(1, "week");
        }
    }

    @Sentence("the first for which they do not do ends the painting")
    private static void promise14TheFirstTooLongEndsIt() {
        Play play = new Play();
        play.call("wall", 0, 0, 21);
        play.call("wall", 0, 0, 1);
        play.call("week");
        play.due(0, "week");
        play.due(0, "wallOf", 1, 4);
        Play between = new Play();
        between.call("wall", 0, 0, 10);
        between.call("wall", 0, 0, 11);
        between.call("wall", 0, 0, 1);
        between.call("week");
        between.due(1, "week");
        between.due(0, "wallOf", 2, 4);
    }

    @Sentence("one with LOOK 100 is never painted")
    private static void promise14Look100IsNeverPainted() {
        Play play = new Play();
        play.call("fade", 0, 0);
        play.call("fade", 1, 1);
        play.call("wall", 0, 0, 60);
        play.call("wall", 0, 1, 1);
        play.due(0, "week");
        // wall 0, for which the hours do not do, does not end it either: it is never its turn
        play.due(1, "week");
        play.due(0, "wallOf", 0, 4);
        play.due(1, "wallOf", 1, 4);
        play.due(100, "wallOf", 0, 3);
    }

    @Sentence("Painted ones have LOOK 100. Then each WALL loses FADE of its SIDE")
    private static void promise14PaintedOnesFadeToo() {
        Play play = new Play();
        play.call("fade", 0, 40);
        play.call("wall", 0, 0, 20);
        play.call("wall", 0, 1, 60);
        play.call("week");
        play.due(1, "week");
        play.due(60, "wallOf", 0, 3);
        play.due(90, "wallOf", 1, 3);
    }

    @Sentence("Then each WALL loses FADE of its SIDE, down to 0.")
    private static void promise14DownTo0() {
        Play play = new Play();
        play.call("hands", 0);
        play.call("fade", 0, 40);
        play.call("fade", 1, 33);
        play.call("fade", 2, 25);
        for (int side = 0; side < 3; side++) {
            play.call("wall", 0, side, 1);
        }
        int[][] due = {{60, 67, 75}, {20, 34, 50}, {0, 1, 25}, {0, 0, 0}, {0, 0, 0}};
        for (int week = 0; week < due.length; week++) {
            play.call("week");
            for (int wall = 0; wall < 3; wall++) {
                play.due(due[week][wall], "wallOf", wall, 3);
            }
        }
        play.call("hands", 1);
        play.due(1, "week");
        play.due(60, "wallOf", 0, 3);
    }

    @Sentence("They change nothing.")
    private static void promise14RefusedCallsChangeNothing() {
        Play old = Play.old();
        old.refused(STATE, "week");
    }

    // ---- 15: foretell

    @Sentence("FORETOLD for n WEEKS (1 to 52, up to WEEK 199)")
    private static void promise15WeeksFrom1To52() {
        Play play = new Play();
        play.call("wall", 0, 0, 60);
        play.call("fade", 0, 1);
        play.idle(99, "foretell", 1, 0);
        play.idle(48, "foretell", 52, 0);
        for (int what = 0; what <= 2; what++) {
            play.outside(1, 52, "foretell", IT, what);
        }
    }

    @Sentence("the least LOOK (what = 0), its WEEK (1), its WALL (2, the first of several)")
    private static void promise15What0To2() {
        Play play = new Play();
        play.call("wall", 0, 0, 60);
        play.call("wall", 0, 1, 60);
        play.call("fade", 1, 7);
        play.idle(79, "foretell", 3, 0);
        play.idle(2, "foretell", 3, 1);
        play.idle(1, "foretell", 3, 2);
        play.outside(0, 2, "foretell", 3, IT);
    }

    @Sentence("FORETOLD for n WEEKS (1 to 52, up to WEEK 199)")
    private static void promise15UpToWeek199() {
        Play play = new Play();
        play.call("wall", 0, 0, 20);
        play.call("frost", 199, true);
        play.times(147, "week");
        play.idle(95, "foretell", 52, 0);
        play.call("week");
        play.idle(90, "foretell", 52, 0);
        play.idle(199, "foretell", 52, 1);
        play.idle(95, "foretell", 51, 0);
    }

    @Sentence("STATE: it would be beyond")
    private static void promise15BeyondWeek199() {
        Play play = new Play();
        play.call("wall", 0, 0, 20);
        play.times(149, "week");
        for (int what = 0; what <= 2; what++) {
            play.refused(STATE, "foretell", 52, what);
        }
        play.idle(95, "foretell", 51, 0);
        play.times(50, "week");
        play.refused(STATE, "foretell", 2, 0);
        play.idle(95, "foretell", 1, 0);
        play.idle(199, "foretell", 1, 1);
        play.call("week");
        play.refused(STATE, "foretell", 1, 0);
    }

    @Sentence("NONE: there are no WALLS.")
    private static void promise15NoneWithoutWalls() {
        Play play = new Play();
        for (int what = 0; what <= 2; what++) {
            play.refused(NONE, "foretell", 1, what);
            play.refused(NONE, "foretell", 52, what);
        }
    }

    @Sentence("the least LOOK of any WALL at the end of any of them")
    private static void promise15AtTheEndOfAnyOfThem() {
        Play play = new Play();
        play.call("fade", 0, 40);
        play.call("hands", 60);
        play.call("wall", 0, 0, 60);
        play.call("frost", 1, true);
        play.times(2, "week");
        // LOOK is 20 now, but 60 at the end of the next week
        play.due(20, "wallOf", 0, 3);
        play.idle(60, "foretell", 1, 0);
        play.idle(2, "foretell", 1, 1);
        play.call("frost", 4, true);
        play.idle(60, "foretell", 2, 0);
        play.idle(20, "foretell", 3, 0);
        play.idle(4, "foretell", 3, 1);
        play.idle(20, "foretell", 9, 0);
    }

    @Sentence("the least LOOK of any WALL at the end of any of them, and when first.")
    private static void promise15WhenFirst() {
        Play play = new Play();
        play.call("wall", 0, 0, 21);
        // down to 0 in WEEK 19, and 0 from then on
        play.idle(5, "foretell", 19, 0);
        play.idle(18, "foretell", 19, 1);
        play.idle(0, "foretell", 20, 0);
        play.idle(19, "foretell", 20, 1);
        play.idle(0, "foretell", 52, 0);
        play.idle(19, "foretell", 52, 1);
        play.times(21, "week");
        play.idle(21, "foretell", 9, 1);
    }

    @Sentence("its WALL (2, the first of several)")
    private static void promise15TheFirstOfSeveralWalls() {
        Play play = new Play();
        play.call("wall", 0, 0, 60);
        play.call("wall", 0, 1, 60);
        play.call("wall", 0, 1, 60);
        play.idle(0, "foretell", 3, 2);
        play.call("fade", 1, 10);
        play.idle(1, "foretell", 3, 2);
        play.call("fade", 1, 4);
        play.idle(0, "foretell", 3, 2);
    }

    @Sentence("its WALL (2, the first of several)")
    private static void promise15TheLastOf24Walls() {
        Play play = new Play();
        play.call("fade", 3, 6);
        play.times(23, "wall", 0, 0, 60);
        play.call("wall", 0, 3, 60);
        play.idle(94, "foretell", 1, 0);
        play.idle(23, "foretell", 1, 2);
    }

    @Sentence("its WEEK (1), its WALL (2, the first of several)")
    private static void promise15WallsThatNeverFade() {
        Play play = new Play();
        play.call("fade", 0, 0);
        play.times(2, "wall", 0, 0, 1);
        play.call("week");
        play.idle(100, "foretell", 52, 0);
        play.idle(1, "foretell", 52, 1);
        play.idle(0, "foretell", 52, 2);
    }

    @Sentence("for so many WEEKS on, as if they went")
    private static void promise15AsIfTheyWent() {
        Play play = new Play();
        play.call("fade", 1, 9);
        play.call("wall", 0, 0, 12);
        play.call("wall", 0, 1, 13);
        play.call("wall", 0, 2, 7);
        play.call("frost", 3, true);
        int least = 101;
        for (int n = 1; n <= 12; n++) {
            Play then = new Play();
            then.call("fade", 1, 9);
            then.call("wall", 0, 0, 12);
            then.call("wall", 0, 1, 13);
            then.call("wall", 0, 2, 7);
            then.call("frost", 3, true);
            then.times(n, "week");
            for (int wall = 0; wall < 3; wall++) {
                least = Math.min(least, then.call("wallOf", wall, 3));
            }
            play.idle(least, "foretell", n, 0);
        }
    }

    @Sentence("the first of these that fits")
    private static void promise15OutsideStateNone() {
        Play play = new Play();
        play.refused(OUTSIDE, "foretell", 0, 0);
        play.refused(OUTSIDE, "foretell", 1, 3);
        play.times(149, "week");
        play.refused(OUTSIDE, "foretell", 53, 0);
        play.refused(OUTSIDE, "foretell", 52, 3);
        play.refused(STATE, "foretell", 52, 0);
        play.refused(NONE, "foretell", 51, 0);
        play.call("wall", 0, 0, 1);
        play.refused(OUTSIDE, "foretell", 53, 0);
        play.refused(OUTSIDE, "foretell", 52, -1);
    }

    @Sentence("They change nothing.")
    private static void promise15RefusedCallsChangeNothing() {
        Play play = Play.livedIn();
        play.refused(OUTSIDE, "foretell", 53, 0);
        play.refused(OUTSIDE, "foretell", 1, 3);
        Play old = Play.old();
        old.refused(STATE, "foretell", 1, 0);
    }

    // ---- 16: enough

    @Sentence("ENOUGH for n WEEKS and a LOOK (0 to 100)")
    private static void promise16WeeksFrom1To52() {
        Play play = new Play();
        play.call("wall", 0, 0, 60);
        play.call("frost", 51, true);
        play.idle(0, "enough", 1, 95);
        play.idle(60, "enough", 51, 95);
        play.idle(NONE, "enough", 52, 95);
        play.idle(60, "enough", 52, 90);
        play.outside(1, 52, "enough", IT, 95);
    }

    @Sentence("ENOUGH for n WEEKS and a LOOK (0 to 100)")
    private static void promise16LookFrom0To100() {
        Play play = new Play();
        play.call("wall", 0, 0, 60);
        play.idle(0, "enough", 52, 0);
        play.idle(NONE, "enough", 1, 100);
        play.outside(0, 100, "enough", 1, IT);
        play.call("fade", 0, 0);
        play.idle(0, "enough", 52, 100);
    }

    @Sentence("with which it is never below a told LOOK")
    private static void promise16JustTheLookIsNotBelow() {
        Play play = new Play();
        play.call("wall", 0, 0, 33);
        play.idle(0, "enough", 1, 95);
        play.idle(NONE, "enough", 1, 96);
        play.idle(0, "enough", 2, 90);
        play.idle(33, "enough", 2, 91);
        play.idle(0, "enough", 20, 0);
        play.idle(33, "enough", 20, 1);
    }

    @Sentence("the fewest HANDS (0 to 500, from 0 on)")
    private static void promise16FewestHandsFrom0To500() {
        Play play = new Play();
        play.times(20, "wall", 0, 0, 25);
        play.idle(0, "enough", 1, 95);
        play.idle(500, "enough", 2, 95);
        play.call("wall", 0, 0, 1);
        play.idle(NONE, "enough", 2, 95);
        play.idle(0, "enough", 2, 90);
        Play least = new Play();
        least.call("wall", 0, 0, 1);
        least.idle(1, "enough", 2, 95);
    }

    @Sentence("the fewest HANDS (0 to 500, from 0 on)")
    private static void promise16OneHourMoreThan500() {
        Play play = new Play();
        play.times(19, "wall", 0, 0, 25);
        play.call("wall", 0, 0, 24);
        play.idle(499, "enough", 2, 95);
        Play more = new Play();
        more.times(19, "wall", 0, 0, 25);
        more.call("wall", 0, 0, 26);
        more.idle(NONE, "enough", 2, 95);
    }

    @Sentence("the fewest HANDS (0 to 500, from 0 on)")
    private static void promise16FromNoHandsOnByForetelling() {
        Play play = new Play();
        play.call("fade", 1, 9);
        play.call("fade", 2, 14);
        play.call("wall", 0, 0, 12);
        play.call("wall", 0, 1, 13);
        play.call("wall", 0, 2, 7);
        play.call("frost", 3, true);
        play.call("week");
        for (int look = 50; look <= 100; look += 5) {
            int fewest = NONE;
            Play tried = new Play();
            tried.call("fade", 1, 9);
            tried.call("fade", 2, 14);
            tried.call("wall", 0, 0, 12);
            tried.call("wall", 0, 1, 13);
            tried.call("wall", 0, 2, 7);
            tried.call("frost", 3, true);
            tried.call("week");
            for (int hands = 0; hands <= 40 && fewest == NONE; hands++) {
                tried.call("hands", hands);
                fewest = tried.call("foretell", 9, 0) >= look ? hands : NONE;
            }
            play.idle(fewest, "enough", 9, look);
        }
    }

    @Sentence("NONE: not even 500, or there are no WALLS.")
    private static void promise16NoneWithoutWalls() {
        Play play = new Play();
        play.refused(NONE, "enough", 1, 0);
        play.refused(NONE, "enough", 52, 100);
    }

    @Sentence("NONE: not even 500, or there are no WALLS.")
    private static void promise16NotEven500() {
        Play play = new Play();
        play.times(24, "wall", 0, 0, 60);
        play.idle(NONE, "enough", 2, 95);
        play.idle(0, "enough", 2, 90);
        Play frost = new Play();
        frost.call("wall", 0, 0, 1);
        frost.call("frost", 1, true);
        frost.idle(NONE, "enough", 2, 91);
        frost.idle(0, "enough", 2, 90);
    }

    @Sentence("the fewest HANDS (0 to 500, from 0 on)")
    private static void promise16HandsThatWereToldDoNotCount() {
        Play play = new Play();
        play.call("wall", 0, 0, 20);
        play.call("hands", 500);
        play.idle(20, "enough", 9, 95);
        play.call("hands", 0);
        play.idle(20, "enough", 9, 95);
        play.due(0, "told", 4);
    }

    @Sentence("OUTSIDE; STATE, likewise.")
    private static void promise16StateBeyondWeek199() {
        Play play = new Play();
        play.call("wall", 0, 0, 20);
        play.times(148, "week");
        play.idle(20, "enough", 52, 95);
        play.call("week");
        play.refused(STATE, "enough", 52, 95);
        play.idle(20, "enough", 51, 95);
        play.times(50, "week");
        play.refused(STATE, "enough", 2, 0);
        play.idle(20, "enough", 1, 91);
        play.idle(0, "enough", 1, 90);
        play.call("week");
        play.refused(STATE, "enough", 1, 0);
    }

    @Sentence("the first of these that fits")
    private static void promise16OutsideStateNone() {
        Play play = new Play();
        play.refused(OUTSIDE, "enough", 0, 0);
        play.refused(OUTSIDE, "enough", 1, 101);
        play.times(149, "week");
        play.refused(OUTSIDE, "enough", 53, 0);
        play.refused(OUTSIDE, "enough", 52, 101);
        play.refused(STATE, "enough", 52, 0);
        play.refused(NONE, "enough", 51, 0);
        play.call("wall", 0, 0, 1);
        play.refused(OUTSIDE, "enough", 52, -1);
    }

    @Sentence("They change nothing.")
    private static void promise16RefusedCallsChangeNothing() {
        Play play = Play.livedIn();
        play.refused(OUTSIDE, "enough", 53, 0);
        play.refused(OUTSIDE, "enough", 1, 101);
        Play old = Play.old();
        old.refused(STATE, "enough", 1, 0);
    }
}
