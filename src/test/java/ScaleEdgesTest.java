import java.io.IOException;

/** Promises 1 to 8, sentence by sentence: each boundary case that the document names. */
public final class ScaleEdgesTest {
    private static final int NONE = -6, UNKNOWN = -1, OUTSIDE = -2, STATE = -3, FULL = -4, NO = -5;
    private static final int HOUSE = 0, TREE = 1, WATER = 2;
    private static final int FAIR = 0, TOO_GREAT = 1, TOO_SMALL = 2;
    private static final Object IT = Play.IT;

    public static void main(String[] args) throws IOException {
        Edges.run(ScaleEdgesTest.class, 1, 8);
    }

    // ---- 1: a new object

    @Sentence("Nothing is there; HANDS 20.")
    private static void promise1NothingIsThere() {
        Play play = new Play();
        for (int what = 0; what <= 9; what++) {
            play.idle(what == 4 ? 20 : 0, "told", what);
        }
        play.idle(UNKNOWN, "look", 0, 0, 0);
        play.idle(UNKNOWN, "wallOf", 0, 0);
        play.idle(UNKNOWN, "block", 0, 0);
        play.idle(UNKNOWN, "trainOf", 0, 0);
        play.idle(UNKNOWN, "note", 0, 0, 0, 0);
        play.idle(-101, "where", 0, 0, 0);
        play.idle(NONE, "fault", 0);
        play.idle(NONE, "foretell", 1, 0);
        play.idle(0, "stands");
        play.idle(0, "at", -1, 3000, 3000);
    }

    @Sentence("Nothing is there; HANDS 20.")
    private static void promise1Hands20() {
        Play play = new Play();
        play.due(20, "told", 4);
        play.due(20, "hands", 0);
        // 20 hours do for a wall of 20, not for one of 21
        Play painting = new Play();
        painting.call("wall", 0, 0, 20);
        painting.call("week");
        painting.due(1, "week");
        Play waiting = new Play();
        waiting.call("wall", 0, 0, 21);
        waiting.call("week");
        waiting.due(0, "week");
    }

    @Sentence("Nothing is there; HANDS 20.")
    private static void promise1NoWeekIsFrost() {
        Play play = new Play();
        for (int week = 0; week < 200; week++) {
            play.due(0, "frost", week, false);
        }
    }

    @Sentence("Nothing is there; HANDS 20.")
    private static void promise1NothingOfAnotherObjectIsThere() {
        Play full = new Play();
        full.call("rule", 0, 2, 0);
        full.call("thing", HOUSE, 100, 1, 0);
        full.call("fade", 0, 40);
        full.call("wall", 0, 0, 1);
        full.call("hands", 7);
        full.call("frost", 0, true);
        full.call("week");
        full.call("ring");
        full.call("run", 9);
        full.call("figure");
        full.call("note", 0, 0, 0, 0);
        promise1NothingIsThere();
        Play other = new Play();
        other.due(0, "frost", 0, false);
        other.due(5, "fade", 0, 0);
        other.due(12, "force", 0, 0);
    }

    @Sentence("An object is used for at most 512 calls after it has been made")
    private static void promise1The512thCallAnswers() {
        Play play = new Play();
        play.times(511, "run", 500);
        play.due(511 * 500, "told", 7);
    }

    // ---- 2: rule

    @Sentence("DAYS go from 0 to 3000.")
    private static void promise2DaysFrom0To3000() {
        Play play = new Play();
        play.due(1, "rule", 0, 12, 10);
        play.due(2, "rule", 3000, 12, 10);
        play.outside(0, 3000, "rule", IT, 12, 10);
    }

    @Sentence("RATIO (2 to 30)")
    private static void promise2RatioFrom2To30() {
        Play play = new Play();
        play.due(1, "rule", 5, 2, 10);
        play.due(2, "force", 5, 0);
        play.due(2, "rule", 5, 30, 10);
        play.due(30, "force", 5, 0);
        play.outside(2, 30, "rule", 5, IT, 10);
        play.refused(OUTSIDE, "rule", 5, 0, 10);
    }

    @Sentence("SLACK (0 to 50 hundredths)")
    private static void promise2SlackFrom0To50() {
        Play play = new Play();
        play.due(1, "rule", 5, 12, 0);
        play.due(0, "force", 5, 1);
        play.due(2, "rule", 5, 12, 50);
        play.due(50, "force", 5, 1);
        play.outside(0, 50, "rule", 5, 12, IT);
    }

    @Sentence("RULES, 6 at most")
    private static void promise2RulesSixAtMost() {
        Play play = new Play();
        for (int many = 1; many <= 6; many++) {
            play.due(many, "rule", many, 12, 10);
        }
        play.refused(FULL, "rule", 7, 12, 10);
        play.refused(FULL, "rule", 6, 30, 50);
        play.due(6, "told", 0);
    }

    @Sentence("A RULE: how many.")
    private static void promise2RefusedOnesAreNotCounted() {
        Play play = new Play();
        play.refused(OUTSIDE, "rule", -1, 12, 10);
        play.due(1, "rule", 0, 12, 10);
        play.refused(OUTSIDE, "rule", 0, 31, 10);
        play.due(2, "rule", 0, 12, 10);
    }

    @Sentence("the first of these that fits")
    private static void promise2OutsideAheadOfFull() {
        Play play = new Play();
        play.times(6, "rule", 5, 12, 10);
        play.outside(0, 3000, "rule", IT, 12, 10);
        play.outside(2, 30, "rule", 5, IT, 10);
        play.outside(0, 50, "rule", 5, 12, IT);
    }

    @Sentence("They change nothing.")
    private static void promise2RefusedCallsChangeNothing() {
        Play play = Play.livedIn();
        play.refused(OUTSIDE, "rule", 3001, 2, 0);
        play.refused(OUTSIDE, "rule", 0, 31, 0);
        play.refused(OUTSIDE, "rule", 0, 2, 51);
        Play full = Play.full();
        full.refused(FULL, "rule", 0, 2, 0);
    }

    // ---- 3: force

    @Sentence("DAYS go from 0 to 3000.")
    private static void promise3DaysFrom0To3000() {
        Play play = new Play();
        play.call("rule", 3000, 30, 50);
        play.idle(12, "force", 0, 0);
        play.idle(10, "force", 0, 1);
        play.idle(30, "force", 3000, 0);
        play.idle(50, "force", 3000, 1);
        play.outside(0, 3000, "force", IT, 0);
        play.outside(0, 3000, "force", IT, 1);
    }

    @Sentence("RATIO (what = 0), SLACK (1)")
    private static void promise3What0And1() {
        Play play = new Play();
        play.due(12, "force", 0, 0);
        play.due(10, "force", 0, 1);
        play.outside(0, 1, "force", 0, IT);
    }

    @Sentence("ahead of all: 12 and 10")
    private static void promise3AheadOfAllRules() {
        Play play = new Play();
        play.due(12, "force", 3000, 0);
        play.due(10, "force", 3000, 1);
        play.call("rule", 10, 9, 50);
        play.due(12, "force", 9, 0);
        play.due(10, "force", 9, 1);
        play.call("rule", 0, 8, 40);
        play.due(8, "force", 0, 0);
        play.due(40, "force", 9, 1);
    }

    @Sentence("each from a DAY on")
    private static void promise3FromItsDayOn() {
        Play play = new Play();
        play.call("rule", 10, 9, 50);
        play.due(12, "force", 9, 0);
        play.due(9, "force", 10, 0);
        play.due(50, "force", 10, 1);
        play.due(9, "force", 11, 0);
        play.due(9, "force", 3000, 0);
    }

    @Sentence("In force on a DAY is that of the greatest DAY not above it")
    private static void promise3GreatestDayNotAbove() {
        Play play = new Play();
        play.call("rule", 50, 20, 0);
        play.call("rule", 10, 9, 50);
        play.call("rule", 30, 15, 25);
        int[] days = {9, 10, 29, 30, 49, 50, 51};
        int[] ratios = {12, 9, 9, 15, 15, 20, 20};
        int[] slacks = {10, 50, 50, 25, 25, 0, 0};
        for (int d = 0; d < days.length; d++) {
            play.due(ratios[d], "force", days[d], 0);
            play.due(slacks[d], "force", days[d], 1);
        }
    }

    @Sentence("(of one DAY the one told last)")
    private static void promise3OfOneDayTheOneToldLast() {
        Play play = new Play();
        play.call("rule", 10, 30, 50);
        play.call("rule", 10, 2, 0);
        play.due(2, "force", 10, 0);
        play.due(0, "force", 10, 1);
        play.call("rule", 9, 7, 7);
        play.due(2, "force", 10, 0);
        play.call("rule", 10, 5, 5);
        play.due(5, "force", 10, 0);
        play.due(5, "force", 10, 1);
        play.due(7, "force", 9, 0);
    }

    @Sentence("RULES, 6 at most")
    private static void promise3AllSixAreInForce() {
        Play play = new Play();
        for (int rule = 5; rule >= 0; rule--) {
            play.call("rule", 10 * rule, 2 + rule, 20 + rule);
        }
        for (int rule = 0; rule < 6; rule++) {
            play.due(2 + rule, "force", 10 * rule, 0);
            play.due(20 + rule, "force", 10 * rule + 9, 1);
        }
    }

    @Sentence("They change nothing.")
    private static void promise3RefusedCallsChangeNothing() {
        Play play = Play.livedIn();
        play.refused(OUTSIDE, "force", 3001, 0);
        play.refused(OUTSIDE, "force", 0, 2);
    }

    // ---- 4: thing

    @Sentence("0 house, 1 tree, 2 water")
    private static void promise4SortFrom0To2() {
        Play play = new Play();
        for (int sort = HOUSE; sort <= WATER; sort++) {
            play.due(sort, "thing", sort, 100, 1, 0);
        }
        play.outside(0, 2, "thing", IT, 100, 1, 0);
    }

    @Sentence("TRUE size (100 to 60000)")
    private static void promise4TrueSizeFrom100To60000() {
        Play play = new Play();
        play.call("rule", 0, 2, 0);
        play.due(0, "thing", HOUSE, 100, 1, 0);
        play.due(1, "thing", HOUSE, 60000, 1, 0);
        play.due(50, "look", 0, 0, 1);
        play.due(30000, "look", 1, 0, 1);
        play.outside(100, 60000, "thing", HOUSE, IT, 1, 0);
    }

    @Sentence("SIZE in small (1 to 9000) as on DAY 0")
    private static void promise4SizeFrom1To9000() {
        Play play = new Play();
        play.due(0, "thing", TREE, 100, 1, 50);
        play.due(1, "thing", TREE, 100, 9000, 50);
        play.due(1, "look", 0, 0, 0);
        play.due(9000, "look", 1, 0, 0);
        play.outside(1, 9000, "thing", TREE, 100, IT, 50);
    }

    @Sentence("trees GROW (0 to 50)")
    private static void promise4GrowFrom0To50() {
        Play play = new Play();
        play.due(0, "thing", TREE, 100, 1, 0);
        play.due(1, "thing", TREE, 100, 1, 50);
        play.due(1, "look", 0, 7, 0);
        play.due(51, "look", 1, 7, 0);
        for (int sort = HOUSE; sort <= WATER; sort++) {
            play.outside(0, 50, "thing", sort, 100, 1, IT);
        }
    }

    @Sentence("THINGS, 20 at most, numbered from 0 on")
    private static void promise4ThingsTwentyAtMost() {
        Play play = new Play();
        for (int thing = 0; thing < 20; thing++) {
            play.due(thing, "thing", thing % 3, 1200, 100 + thing, 0);
        }
        play.refused(FULL, "thing", HOUSE, 1200, 100, 0);
        play.refused(FULL, "thing", TREE, 100, 9000, 50);
        play.due(20, "told", 1);
        play.due(100, "look", 0, 0, 0);
        play.due(119, "look", 19, 0, 0);
    }

    @Sentence("A THING: its number.")
    private static void promise4RefusedOnesTakeNoNumber() {
        Play play = new Play();
        play.refused(OUTSIDE, "thing", 3, 100, 1, 0);
        play.due(0, "thing", HOUSE, 100, 1, 0);
        play.refused(OUTSIDE, "thing", HOUSE, 99, 1, 0);
        play.due(1, "thing", HOUSE, 100, 1, 0);
    }

    @Sentence("the first of these that fits")
    private static void promise4OutsideAheadOfFull() {
        Play play = new Play();
        play.times(20, "thing", HOUSE, 100, 1, 0);
        play.refused(OUTSIDE, "thing", 3, 100, 1, 0);
        play.refused(OUTSIDE, "thing", HOUSE, 60001, 1, 0);
        play.refused(OUTSIDE, "thing", HOUSE, 100, 0, 0);
        play.refused(OUTSIDE, "thing", HOUSE, 100, 1, 51);
    }

    @Sentence("They change nothing.")
    private static void promise4RefusedCallsChangeNothing() {
        Play play = Play.livedIn();
        play.refused(OUTSIDE, "thing", 3, 100, 1, 0);
        play.refused(OUTSIDE, "thing", 1, 99, 1, 0);
        play.refused(OUTSIDE, "thing", 1, 100, 0, 0);
        play.refused(OUTSIDE, "thing", 1, 100, 1, 51);
        Play full = Play.full();
        full.refused(FULL, "thing", 0, 100, 1, 0);
    }

    // ---- 5: clip

    @Sentence("there is no such THING")
    private static void promise5UnknownThing() {
        Play play = new Play();
        play.unknown(0, "clip", IT, 0, 1);
        play.call("thing", TREE, 100, 1, 0);
        play.call("thing", TREE, 100, 1, 0);
        play.unknown(2, "clip", IT, 0, 1);
        play.due(1, "clip", 0, 0, 2);
        play.due(1, "clip", 1, 0, 2);
    }

    @Sentence("there is no such THING")
    private static void promise5UnknownThingBeside20() {
        Play play = new Play();
        play.times(20, "thing", TREE, 100, 1, 0);
        play.due(1, "clip", 19, 0, 2);
        play.unknown(20, "clip", IT, 0, 1);
    }

    @Sentence("OUTSIDE: the DAY, SIZE 1 to 9000")
    private static void promise5DayFrom0To3000() {
        Play play = new Play();
        play.call("thing", TREE, 100, 1, 0);
        play.outside(0, 3000, "clip", 0, IT, 5);
        play.due(1, "clip", 0, 0, 5);
        play.due(5, "clip", 0, 3000, 6);
        play.due(5, "look", 0, 2999, 0);
        play.due(6, "look", 0, 3000, 0);
    }

    @Sentence("OUTSIDE: the DAY, SIZE 1 to 9000")
    private static void promise5SizeFrom1To9000() {
        Play play = new Play();
        play.call("thing", TREE, 100, 70, 50);
        play.outside(1, 9000, "clip", 0, 0, IT);
        play.due(70, "clip", 0, 0, 1);
        play.due(1, "look", 0, 0, 0);
        play.due(1, "clip", 0, 0, 9000);
        play.due(9000, "look", 0, 0, 0);
        play.due(9050, "look", 0, 7, 0);
    }

    @Sentence("STATE: it is no tree")
    private static void promise5StateOfHouseAndWater() {
        Play play = new Play();
        play.call("thing", HOUSE, 100, 1, 50);
        play.call("thing", TREE, 100, 1, 50);
        play.call("thing", WATER, 100, 1, 50);
        play.refused(STATE, "clip", 0, 0, 1);
        play.due(1, "clip", 1, 0, 1);
        play.refused(STATE, "clip", 2, 0, 1);
    }

    @Sentence("FULL: 60 clippings were")
    private static void promise5SixtyClippings() {
        Play play = new Play();
        play.call("thing", TREE, 100, 1, 0);
        play.call("thing", HOUSE, 100, 1, 0);
        for (int clipping = 1; clipping <= 60; clipping++) {
            play.due(clipping, "clip", 0, clipping, clipping + 1);
        }
        play.refused(FULL, "clip", 0, 60, 1);
        play.refused(FULL, "clip", 0, 3000, 9000);
        play.due(61, "look", 0, 60, 0);
        play.due(1, "look", 0, 0, 0);
        play.due(2, "look", 0, 1, 0);
    }

    @Sentence("FULL: 60 clippings were")
    private static void promise5SixtyClippingsOfAllTrees() {
        Play play = new Play();
        play.times(3, "thing", TREE, 100, 1, 0);
        play.times(30, "clip", 0, 10, 5);
        play.times(29, "clip", 1, 10, 5);
        play.refused(NO, "clip", 0, 9, 5);
        play.due(1, "clip", 2, 10, 5);
        for (int tree = 0; tree < 3; tree++) {
            play.refused(FULL, "clip", tree, 10, 5);
        }
    }

    @Sentence("NO: the DAY is ahead of its latest one")
    private static void promise5DayAheadOfItsLatest() {
        Play play = new Play();
        play.call("thing", TREE, 100, 1, 0);
        play.due(1, "clip", 0, 30, 5);
        play.refused(NO, "clip", 0, 29, 6);
        play.refused(NO, "clip", 0, 0, 6);
        play.due(5, "clip", 0, 3000, 7);
        play.refused(NO, "clip", 0, 2999, 6);
    }

    @Sentence("NO: the DAY is ahead of its latest one")
    private static void promise5LatestOneOfAnotherTree() {
        Play play = new Play();
        play.times(2, "thing", TREE, 100, 1, 0);
        play.call("clip", 0, 3000, 5);
        play.due(1, "clip", 1, 0, 6);
        play.due(6, "clip", 1, 0, 7);
        play.refused(NO, "clip", 0, 2999, 5);
    }

    @Sentence("on a DAY not ahead of the one ahead")
    private static void promise5OnTheSameDayAgain() {
        Play play = new Play();
        play.call("thing", TREE, 100, 900, 10);
        play.due(940, "clip", 0, 30, 500);
        play.due(500, "clip", 0, 30, 400);
        play.due(400, "clip", 0, 30, 9000);
        play.due(9000, "look", 0, 30, 0);
        play.due(940, "look", 0, 29, 0);
        play.due(9000, "clip", 0, 31, 1);
    }

    @Sentence("A tree is clipped: its SIZE on that DAY ahead of it.")
    private static void promise5SizeAheadOfIt() {
        Play play = new Play();
        play.times(2, "thing", TREE, 100, 900, 10);
        play.due(900, "clip", 0, 6, 500);
        play.due(910, "clip", 1, 7, 500);
        play.due(500, "clip", 0, 12, 500);
        play.due(510, "clip", 1, 14, 500);
    }

    @Sentence("others do not grow, nor are they clipped")
    private static void promise5RefusedClippingsAreNotCounted() {
        Play play = new Play();
        play.call("thing", TREE, 100, 1, 0);
        play.call("thing", HOUSE, 100, 1, 0);
        play.times(20, "clip", 1, 10, 5);
        play.times(20, "clip", 0, 10, 0);
        play.times(20, "clip", 9, 10, 5);
        play.times(59, "clip", 0, 10, 5);
        play.times(20, "clip", 0, 9, 5);
        play.due(5, "clip", 0, 10, 6);
        play.refused(FULL, "clip", 0, 10, 5);
    }

    @Sentence("the first of these that fits")
    private static void promise5OrderOfRefusals() {
        Play play = new Play();
        play.call("thing", TREE, 100, 1, 0);
        play.call("thing", HOUSE, 100, 1, 0);
        play.times(59, "clip", 0, 30, 5);
        play.refused(UNKNOWN, "clip", 2, 3001, 5);
        play.refused(UNKNOWN, "clip", -1, 30, 0);
        play.refused(OUTSIDE, "clip", 1, -1, 5);
        play.refused(OUTSIDE, "clip", 1, 30, 9001);
        play.refused(OUTSIDE, "clip", 0, -1, 5);
        play.refused(OUTSIDE, "clip", 0, 29, 0);
        play.call("clip", 0, 30, 5);
        play.refused(UNKNOWN, "clip", 2, 30, 5);
        play.refused(OUTSIDE, "clip", 0, 3001, 5);
        play.refused(OUTSIDE, "clip", 0, 30, 0);
        play.refused(STATE, "clip", 1, 30, 5);
        play.refused(FULL, "clip", 0, 29, 5);
    }

    @Sentence("They change nothing.")
    private static void promise5RefusedCallsChangeNothing() {
        Play play = Play.livedIn();
        play.refused(UNKNOWN, "clip", 3, 40, 9);
        play.refused(OUTSIDE, "clip", 1, 3001, 9);
        play.refused(OUTSIDE, "clip", 1, 40, 0);
        play.refused(STATE, "clip", 0, 40, 9);
        play.refused(STATE, "clip", 2, 40, 9);
        play.refused(NO, "clip", 1, 29, 9);
        Play full = Play.full();
        full.refused(FULL, "clip", 1, 40, 9);
        full.refused(UNKNOWN, "clip", 20, 40, 9);
    }

    // ---- 6: look

    @Sentence("there is no such THING")
    private static void promise6UnknownThing() {
        Play play = new Play();
        play.unknown(0, "look", IT, 0, 0);
        play.call("thing", HOUSE, 100, 1, 0);
        play.unknown(1, "look", IT, 0, 0);
        play.times(19, "thing", HOUSE, 100, 1, 0);
        play.idle(1, "look", 19, 0, 0);
        play.unknown(20, "look", IT, 0, 0);
    }

    @Sentence("DAYS go from 0 to 3000.")
    private static void promise6DaysFrom0To3000() {
        Play play = new Play();
        play.call("thing", TREE, 1200, 100, 1);
        for (int what = 0; what <= 2; what++) {
            play.outside(0, 3000, "look", 0, IT, what);
        }
        play.idle(100, "look", 0, 0, 0);
        play.idle(528, "look", 0, 3000, 0);
    }

    @Sentence("(what = 0), DUE (1), FAULT (2)")
    private static void promise6What0To2() {
        Play play = new Play();
        play.call("thing", HOUSE, 1200, 111, 0);
        play.due(111, "look", 0, 0, 0);
        play.due(100, "look", 0, 0, 1);
        play.due(TOO_GREAT, "look", 0, 0, 2);
        play.outside(0, 2, "look", 0, 0, IT);
    }

    @Sentence("each 7 DAYS that are whole since DAY 0")
    private static void promise6GrowsWith7WholeDays() {
        Play play = new Play();
        play.call("thing", TREE, 60000, 9000, 50);
        int[] days = {0, 1, 6, 7, 8, 13, 14, 2995, 2996, 3000};
        int[] times = {0, 0, 0, 1, 1, 1, 2, 427, 428, 428};
        for (int d = 0; d < days.length; d++) {
            play.due(9000 + 50 * times[d], "look", 0, days[d], 0);
        }
    }

    @Sentence("or since they were clipped last")
    private static void promise6DaysBeginAgainAtTheClipping() {
        Play play = new Play();
        play.call("thing", TREE, 9000, 700, 20);
        play.call("clip", 0, 10, 100);
        play.call("clip", 0, 16, 300);
        int[] days = {6, 7, 9, 10, 15, 16, 17, 22, 23, 29, 30};
        int[] due = {700, 720, 720, 100, 100, 300, 300, 300, 320, 320, 340};
        for (int d = 0; d < days.length; d++) {
            play.due(due[d], "look", 0, days[d], 0);
        }
        play.call("clip", 0, 30, 340);
        play.due(340, "look", 0, 36, 0);
        play.due(360, "look", 0, 37, 0);
    }

    @Sentence("as clipped by then (what = 0)")
    private static void promise6ClippedOnTheDayItself() {
        Play play = new Play();
        play.times(2, "thing", TREE, 9000, 700, 0);
        play.call("clip", 0, 30, 100);
        play.due(700, "look", 0, 29, 0);
        play.due(100, "look", 0, 30, 0);
        play.due(700, "look", 1, 30, 0);
        play.call("clip", 1, 0, 90);
        play.due(90, "look", 1, 0, 0);
    }

    @Sentence("others do not grow, nor are they clipped")
    private static void promise6OthersDoNotGrow() {
        Play play = new Play();
        play.call("thing", HOUSE, 9000, 700, 50);
        play.call("thing", WATER, 9000, 700, 50);
        play.call("thing", TREE, 9000, 700, 0);
        for (int thing = 0; thing < 3; thing++) {
            play.due(700, "look", thing, 0, 0);
            play.due(700, "look", thing, 7, 0);
            play.due(700, "look", thing, 3000, 0);
        }
    }

    @Sentence("DUE is TRUE by RATIO.")
    private static void promise6LeastAndGreatestDue() {
        Play play = new Play();
        play.call("rule", 0, 2, 0);
        play.call("rule", 10, 30, 0);
        play.call("thing", HOUSE, 100, 1, 0);
        play.call("thing", HOUSE, 60000, 1, 0);
        play.due(50, "look", 0, 9, 1);
        play.due(3, "look", 0, 10, 1);
        play.due(30000, "look", 1, 9, 1);
        play.due(2000, "look", 1, 10, 1);
    }

    @Sentence("Quotients are cut.")
    private static void promise6DueIsCut() {
        Play play = new Play();
        play.call("rule", 0, 30, 0);
        play.call("thing", HOUSE, 119, 3, 0);
        play.call("thing", HOUSE, 120, 4, 0);
        play.call("thing", HOUSE, 149, 4, 0);
        play.due(3, "look", 0, 0, 1);
        play.due(4, "look", 1, 0, 1);
        play.due(4, "look", 2, 0, 1);
        for (int thing = 0; thing < 3; thing++) {
            play.due(FAIR, "look", thing, 0, 2);
        }
    }

    @Sentence("Quotients are cut.")
    private static void promise6SlackOfDueIsCut() {
        Play play = new Play();
        // DUE 19: 19 by 10 hundredths is 1, and 20 by 10 is 2
        play.call("rule", 0, 10, 10);
        play.call("thing", HOUSE, 199, 20, 0);
        play.call("thing", HOUSE, 199, 21, 0);
        play.call("thing", HOUSE, 199, 17, 0);
        play.call("thing", HOUSE, 200, 22, 0);
        play.call("thing", HOUSE, 200, 18, 0);
        int[] due = {FAIR, TOO_GREAT, TOO_SMALL, FAIR, FAIR};
        for (int thing = 0; thing < due.length; thing++) {
            play.due(due[thing], "look", thing, 0, 2);
        }
    }

    @Sentence("a house, if its SIZE then differs from DUE by no more than DUE times SLACK by 100")
    private static void promise6HouseDiffersByNoMore() {
        faultsBesideSlack(HOUSE, TOO_SMALL, TOO_GREAT);
    }

    @Sentence("a tree, if it is above DUE by no more than that")
    private static void promise6TreeIsAboveByNoMore() {
        faultsBesideSlack(TREE, FAIR, TOO_GREAT);
    }

    @Sentence("a water, if it is below DUE by no more.")
    private static void promise6WaterIsBelowByNoMore() {
        faultsBesideSlack(WATER, TOO_SMALL, FAIR);
    }

    /** DUE 750: by 10 hundredths 675 to 825 are fair on both sides, by 0 750 alone, by 50 375 to 1125. */
    private static void faultsBesideSlack(int sort, int below, int above) {
        Play play = new Play();
        play.call("rule", 10, 12, 0);
        play.call("rule", 20, 12, 50);
        int[] days = {0, 10, 20};
        int[] least = {675, 750, 375};
        int[] greatest = {825, 750, 1125};
        int[] sizes = {1, 374, 375, 674, 675, 749, 750, 751, 825, 826, 1125, 1126, 9000};
        for (int s = 0; s < sizes.length; s++) {
            play.due(s, "thing", sort, 9000, sizes[s], 0);
            for (int d = 0; d < days.length; d++) {
                int due = sizes[s] < least[d] ? below : sizes[s] > greatest[d] ? above : FAIR;
                play.due(due, "look", s, days[d], 2);
            }
        }
    }

    @Sentence("Its FAULT: 0 FAIR, 1 too great, 2 too small.")
    private static void promise6FaultOfTheGreatest() {
        Play play = new Play();
        play.call("rule", 0, 2, 50);
        play.call("rule", 100, 30, 50);
        play.call("thing", HOUSE, 60000, 9000, 0);
        play.call("thing", TREE, 60000, 9000, 50);
        play.call("thing", WATER, 60000, 1, 0);
        play.call("thing", HOUSE, 30000, 7500, 0);
        play.due(TOO_SMALL, "look", 0, 0, 2);
        play.due(FAIR, "look", 1, 0, 2);
        play.due(TOO_SMALL, "look", 2, 0, 2);
        play.due(FAIR, "look", 3, 0, 2);
        play.due(TOO_GREAT, "look", 0, 3000, 2);
        play.due(30400, "look", 1, 3000, 0);
        play.due(TOO_GREAT, "look", 1, 3000, 2);
        play.due(TOO_SMALL, "look", 2, 3000, 2);
    }

    @Sentence("rules in force from their days on")
    private static void promise6FaultFromTheRulesDayOn() {
        Play play = new Play();
        play.call("thing", HOUSE, 9000, 830, 0);
        play.call("rule", 100, 11, 2);
        play.due(TOO_GREAT, "look", 0, 99, 2);
        play.due(750, "look", 0, 99, 1);
        play.due(FAIR, "look", 0, 100, 2);
        play.due(818, "look", 0, 100, 1);
    }

    @Sentence("the first of these that fits")
    private static void promise6UnknownAheadOfOutside() {
        Play play = new Play();
        play.call("thing", HOUSE, 9000, 830, 0);
        play.refused(UNKNOWN, "look", 1, 3001, 0);
        play.refused(UNKNOWN, "look", -1, 0, 3);
        play.refused(OUTSIDE, "look", 0, -1, 3);
    }

    @Sentence("They change nothing.")
    private static void promise6RefusedCallsChangeNothing() {
        Play play = Play.livedIn();
        play.refused(UNKNOWN, "look", 3, 0, 0);
        play.refused(OUTSIDE, "look", 0, 3001, 0);
        play.refused(OUTSIDE, "look", 0, 0, 3);
    }

    // ---- 7: fault

    @Sentence("DAYS go from 0 to 3000.")
    private static void promise7DaysFrom0To3000() {
        Play play = new Play();
        play.call("thing", TREE, 9000, 750, 50);
        play.idle(NONE, "fault", 0);
        play.idle(0, "fault", 3000);
        play.outside(0, 3000, "fault", IT);
    }

    @Sentence("The first THING with a FAULT on a DAY; NONE.")
    private static void promise7NoneWithoutThings() {
        Play play = new Play();
        play.due(NONE, "fault", 0);
        play.due(NONE, "fault", 3000);
    }

    @Sentence("The first THING with a FAULT on a DAY; NONE.")
    private static void promise7NoneIfAllAreFair() {
        Play play = new Play();
        for (int thing = 0; thing < 20; thing++) {
            play.call("thing", thing % 3, 9000, 750, 0);
        }
        play.due(NONE, "fault", 0);
        play.due(NONE, "fault", 3000);
    }

    @Sentence("The first THING with a FAULT on a DAY; NONE.")
    private static void promise7TheFirstAndTheLastOf20() {
        Play play = new Play();
        play.times(19, "thing", HOUSE, 9000, 750, 0);
        play.call("thing", HOUSE, 9000, 826, 0);
        play.due(19, "fault", 0);
        Play several = new Play();
        several.times(3, "thing", HOUSE, 9000, 674, 0);
        several.due(0, "fault", 0);
        Play later = new Play();
        later.call("thing", TREE, 9000, 825, 1);
        later.call("thing", WATER, 9000, 674, 0);
        later.due(1, "fault", 6);
        later.due(0, "fault", 7);
    }

    @Sentence("They change nothing.")
    private static void promise7RefusedCallsChangeNothing() {
        Play play = Play.livedIn();
        play.refused(OUTSIDE, "fault", -1);
        play.refused(OUTSIDE, "fault", 3001);
    }

    // ---- 8: spoils

    @Sentence("there is no such THING")
    private static void promise8UnknownThing() {
        Play play = new Play();
        play.unknown(0, "spoils", IT, 0);
        play.times(20, "thing", HOUSE, 9000, 750, 0);
        play.idle(NONE, "spoils", 19, 0);
        play.unknown(20, "spoils", IT, 0);
    }

    @Sentence("DAYS go from 0 to 3000.")
    private static void promise8DaysFrom0To3000() {
        Play play = new Play();
        play.call("thing", HOUSE, 9000, 826, 0);
        play.idle(0, "spoils", 0, 0);
        play.idle(3000, "spoils", 0, 3000);
        play.outside(0, 3000, "spoils", 0, IT);
    }

    @Sentence("The first DAY from one on")
    private static void promise8FromThatDayOn() {
        Play play = new Play();
        play.call("thing", TREE, 9000, 825, 1);
        play.due(7, "spoils", 0, 0);
        play.due(7, "spoils", 0, 6);
        play.due(7, "spoils", 0, 7);
        play.due(8, "spoils", 0, 8);
    }

    @Sentence("up to 3000, on which a THING has a FAULT; NONE.")
    private static void promise8UpToDay3000() {
        Play play = new Play();
        play.call("thing", HOUSE, 9000, 750, 0);
        play.due(NONE, "spoils", 0, 0);
        play.due(NONE, "spoils", 0, 3000);
        play.call("rule", 3000, 30, 0);
        play.due(3000, "spoils", 0, 0);
        play.due(3000, "spoils", 0, 3000);
    }

    @Sentence("up to 3000, on which a THING has a FAULT; NONE.")
    private static void promise8GrownOnTheLastDays() {
        Play play = new Play();
        // 428 times 1 by DAY 2996
        play.call("thing", TREE, 9000, 825 - 427, 1);
        play.due(2996, "spoils", 0, 0);
        play.call("thing", TREE, 9000, 825 - 428, 1);
        play.due(NONE, "spoils", 1, 0);
    }

    @Sentence("up to 3000, on which a THING has a FAULT; NONE.")
    private static void promise8AFaultThatIsOver() {
        Play play = new Play();
        play.call("thing", TREE, 9000, 826, 0);
        play.call("clip", 0, 20, 825);
        play.due(0, "spoils", 0, 0);
        play.due(19, "spoils", 0, 19);
        play.due(NONE, "spoils", 0, 20);
    }

    @Sentence("the first of these that fits")
    private static void promise8UnknownAheadOfOutside() {
        Play play = new Play();
        play.call("thing", HOUSE, 9000, 750, 0);
        play.refused(UNKNOWN, "spoils", 1, 3001);
        play.refused(UNKNOWN, "spoils", -1, -1);
    }

    @Sentence("They change nothing.")
    private static void promise8RefusedCallsChangeNothing() {
        Play play = Play.livedIn();
        play.refused(UNKNOWN, "spoils", 3, 0);
        play.refused(OUTSIDE, "spoils", 0, 3001);
    }
}
