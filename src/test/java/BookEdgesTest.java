import java.io.IOException;

/** Promises 24 to 29, sentence by sentence: each boundary case that the document names. */
public final class BookEdgesTest {
    private static final int NONE = -6, UNKNOWN = -1, OUTSIDE = -2, FULL = -4, NO = -5;
    private static final int WHERE_UNKNOWN = -101, WHERE_OUTSIDE = -102, GONE = -1;
    private static final Object IT = Play.IT;

    public static void main(String[] args) throws IOException {
        Edges.run(BookEdgesTest.class, 24, 29);
    }

    private static Play withFigures(int figures) {
        Play play = new Play();
        play.times(figures, "figure");
        return play;
    }

    // ---- 24: figure

    @Sentence("FIGURES, 12 at most, numbered from 0 on.")
    private static void promise24FiguresTwelveAtMost() {
        Play play = new Play();
        for (int figure = 0; figure < 12; figure++) {
            play.due(figure, "figure");
            play.due(figure + 1, "told", 8);
        }
        play.refused(FULL, "figure");
        play.due(12, "told", 8);
    }

    @Sentence("They change nothing.")
    private static void promise24RefusedCallsChangeNothing() {
        Play full = Play.full();
        full.refused(FULL, "figure");
    }

    // ---- 25: note

    @Sentence("(there is no such THING, WALL, TRAIN, RING, FIGURE)")
    private static void promise25UnknownFigure() {
        Play play = new Play();
        play.unknown(0, "note", IT, 0, 0, 0);
        play.call("figure");
        play.unknown(1, "note", IT, 0, 0, 0);
        play.times(11, "figure");
        play.unknown(12, "note", IT, 0, 0, 0);
        play.due(1, "note", 11, 0, 0, 0);
    }

    @Sentence("the DAY of which it tells")
    private static void promise25DayOfWhichItTellsFrom0To3000() {
        Play play = withFigures(1);
        play.outside(0, 3000, "note", 0, IT, 3000, 0);
        play.due(1, "note", 0, 0, 3000, 0);
        play.due(2, "note", 0, 3000, 3000, 1);
        play.due(0, "where", 0, 0, 3000);
        play.due(1, "where", 0, 3000, 3000);
    }

    @Sentence("the DAY on which it was told")
    private static void promise25DayOnWhichItWasToldFrom0To3000() {
        Play play = withFigures(1);
        play.outside(0, 3000, "note", 0, 0, IT, 0);
        play.due(1, "note", 0, 0, 0, 7);
        play.due(2, "note", 0, 0, 3000, 8);
        play.due(7, "where", 0, 0, 2999);
        play.due(8, "where", 0, 0, 3000);
    }

    @Sentence("a place (0 to 99), or -1: it was gone.")
    private static void promise25PlaceFrom0To99OrGone() {
        Play play = withFigures(3);
        play.outside(GONE, 99, "note", 0, 0, 0, IT);
        play.refused(OUTSIDE, "note", 0, 0, 0, NONE);
        play.due(1, "note", 0, 0, 0, 0);
        play.due(2, "note", 1, 0, 0, 99);
        play.due(3, "note", 2, 0, 0, GONE);
        play.due(0, "where", 0, 0, 0);
        play.due(99, "where", 1, 0, 0);
        play.due(GONE, "where", 2, 0, 0);
    }

    @Sentence("NOTES, 60 at most")
    private static void promise25NotesSixtyAtMost() {
        Play play = withFigures(2);
        for (int note = 1; note <= 60; note++) {
            play.due(note, "note", note % 2, note, note, note);
        }
        play.refused(FULL, "note", 0, 60, 60, 1);
        play.refused(FULL, "note", 1, 3000, 3000, 99);
        play.due(60, "told", 9);
        play.due(60, "where", 0, 3000, 3000);
        play.due(59, "where", 1, 3000, 3000);
        play.due(1, "where", 1, 1, 1);
    }

    @Sentence("NO: a NOTE was told on a later DAY, or it tells of a DAY to come.")
    private static void promise25ToldOnALaterDay() {
        Play play = withFigures(2);
        play.due(1, "note", 0, 0, 5, 1);
        play.refused(NO, "note", 0, 0, 4, 2);
        play.refused(NO, "note", 1, 0, 0, 2);
        play.due(2, "note", 1, 0, 5, 2);
        play.due(3, "note", 0, 0, 6, 3);
        play.refused(NO, "note", 0, 0, 5, 4);
        play.due(4, "note", 0, 0, 3000, 4);
        play.refused(NO, "note", 1, 0, 2999, 5);
    }

    @Sentence("NO: a NOTE was told on a later DAY, or it tells of a DAY to come.")
    private static void promise25OfADayToCome() {
        Play play = withFigures(1);
        play.refused(NO, "note", 0, 1, 0, 1);
        play.refused(NO, "note", 0, 3000, 2999, 1);
        play.due(1, "note", 0, 0, 0, 1);
        play.due(2, "note", 0, 10, 10, 1);
        play.refused(NO, "note", 0, 11, 10, 1);
        play.due(3, "note", 0, 9, 10, 1);
        play.due(4, "note", 0, 3000, 3000, 1);
    }

    @Sentence("not ahead of any told so far, nor of the one of which it tells")
    private static void promise25RefusedOnesTellNothing() {
        Play play = withFigures(1);
        play.due(1, "note", 0, 3, 5, 1);
        play.refused(NO, "note", 0, 3, 4, 2);
        play.refused(NO, "note", 0, 6, 5, 2);
        play.refused(OUTSIDE, "note", 0, 3, 3001, 2);
        // a refused one is none that was told on a later day
        play.due(2, "note", 0, 4, 5, 3);
        play.due(1, "where", 0, 3, 3000);
        play.due(3, "where", 0, 3000, 3000);
    }

    @Sentence("A NOTE: how many.")
    private static void promise25HowManyOfAllFigures() {
        Play play = withFigures(12);
        for (int figure = 0; figure < 12; figure++) {
            play.due(figure + 1, "note", figure, 0, 0, figure);
        }
        play.due(13, "note", 0, 0, 0, 0);
        play.due(13, "told", 9);
    }

    @Sentence("the first of these that fits")
    private static void promise25OrderOfRefusals() {
        Play play = withFigures(1);
        play.times(59, "note", 0, 5, 5, 1);
        play.refused(UNKNOWN, "note", 1, 3001, 3001, 1);
        play.refused(UNKNOWN, "note", 1, 0, 5, 100);
        play.refused(UNKNOWN, "note", -1, 0, 4, 1);
        play.refused(OUTSIDE, "note", 0, 3001, 5, 1);
        play.refused(OUTSIDE, "note", 0, 0, -1, 1);
        play.refused(OUTSIDE, "note", 0, 6, 5, 100);
        play.refused(NO, "note", 0, 0, 4, 1);
        play.call("note", 0, 5, 5, 1);
        play.refused(UNKNOWN, "note", 1, 5, 5, 1);
        play.refused(OUTSIDE, "note", 0, 5, 5, -2);
        play.refused(FULL, "note", 0, 0, 4, 1);
        play.refused(FULL, "note", 0, 6, 5, 1);
    }

    @Sentence("They change nothing.")
    private static void promise25RefusedCallsChangeNothing() {
        Play play = Play.livedIn();
        play.refused(UNKNOWN, "note", 2, 5, 12, 1);
        play.refused(OUTSIDE, "note", 0, 3001, 12, 1);
        play.refused(OUTSIDE, "note", 0, 5, 3001, 1);
        play.refused(OUTSIDE, "note", 0, 5, 12, 100);
        play.refused(NO, "note", 0, 5, 11, 1);
        play.refused(NO, "note", 0, 14, 13, 1);
        Play full = Play.full();
        full.refused(FULL, "note", 0, 5, 40, 1);
    }

    // ---- 26: where

    @Sentence("(UNKNOWN: -101; OUTSIDE: -102.)")
    private static void promise26UnknownFigure() {
        Play play = new Play();
        play.beside(WHERE_UNKNOWN, 0, -1, "where", IT, 0, 0);
        play.call("figure");
        play.beside(WHERE_UNKNOWN, 0, 0, "where", IT, 0, 0);
        play.times(11, "figure");
        play.beside(WHERE_UNKNOWN, 0, 11, "where", IT, 0, 0);
        play.idle(NONE, "where", 11, 0, 0);
    }

    @Sentence("(UNKNOWN: -101; OUTSIDE: -102.)")
    private static void promise26DaysFrom0To3000() {
        Play play = withFigures(1);
        play.call("note", 0, 0, 0, 5);
        play.call("note", 0, 3000, 3000, 6);
        play.beside(WHERE_OUTSIDE, 0, 3000, "where", 0, IT, 0);
        play.beside(WHERE_OUTSIDE, 0, 3000, "where", 0, 0, IT);
        play.idle(5, "where", 0, 0, 0);
        play.idle(5, "where", 0, 3000, 0);
        play.idle(5, "where", 0, 0, 3000);
        play.idle(6, "where", 0, 3000, 3000);
    }

    @Sentence("As of a DAY: only NOTES told by then count.")
    private static void promise26OnlyNotesToldByThen() {
        Play play = withFigures(1);
        play.call("note", 0, 2, 10, 5);
        play.call("note", 0, 2, 20, 6);
        play.due(NONE, "where", 0, 2, 9);
        play.due(5, "where", 0, 2, 10);
        play.due(5, "where", 0, 2, 19);
        play.due(6, "where", 0, 2, 20);
        play.due(6, "where", 0, 2, 3000);
        // also of a day that is then to come
        play.due(NONE, "where", 0, 3000, 9);
        play.due(5, "where", 0, 3000, 10);
    }

    @Sentence("where the NOTE tells with the greatest DAY not above it")
    private static void promise26GreatestDayNotAbove() {
        Play play = withFigures(1);
        play.call("note", 0, 8, 10, 80);
        play.call("note", 0, 4, 10, 40);
        play.call("note", 0, 6, 10, 60);
        int[] days = {0, 3, 4, 5, 6, 7, 8, 9, 3000};
        int[] due = {NONE, NONE, 40, 40, 60, 60, 80, 80, 80};
        for (int d = 0; d < days.length; d++) {
            play.due(due[d], "where", 0, days[d], 10);
        }
    }

    @Sentence("(of several the one told last)")
    private static void promise26OfSeveralTheOneToldLast() {
        Play play = withFigures(2);
        play.call("note", 0, 4, 10, 99);
        play.call("note", 0, 4, 10, 0);
        play.call("note", 1, 4, 10, 50);
        play.due(0, "where", 0, 4, 10);
        play.call("note", 0, 4, 11, 7);
        play.call("note", 0, 3, 12, 8);
        play.due(0, "where", 0, 4, 10);
        play.due(7, "where", 0, 4, 11);
        play.due(7, "where", 0, 4, 12);
        play.due(8, "where", 0, 3, 12);
    }

    @Sentence("NONE without any.")
    private static void promise26NoneWithoutAny() {
        Play play = withFigures(2);
        play.due(NONE, "where", 0, 3000, 3000);
        play.call("note", 1, 0, 0, 5);
        play.due(NONE, "where", 0, 3000, 3000);
        play.call("note", 0, 5, 6, 9);
        play.due(NONE, "where", 0, 4, 3000);
        play.due(NONE, "where", 0, 3000, 5);
        play.due(9, "where", 0, 5, 6);
    }

    @Sentence("Where a FIGURE is on a DAY, as of another one (-1: it was gone; NONE).")
    private static void promise26GoneAndFoundAgain() {
        Play play = withFigures(1);
        play.call("note", 0, 5, 5, 0);
        play.call("note", 0, 6, 6, GONE);
        play.call("note", 0, 7, 7, 99);
        int[] due = {NONE, 0, GONE, 99};
        for (int d = 0; d < due.length; d++) {
            play.due(due[d], "where", 0, 4 + d, 3000);
        }
    }

    @Sentence("the first of these that fits")
    private static void promise26UnknownAheadOfOutside() {
        Play play = withFigures(1);
        play.refused(WHERE_UNKNOWN, "where", 1, 3001, 0);
        play.refused(WHERE_UNKNOWN, "where", -1, 0, -1);
    }

    @Sentence("They change nothing.")
    private static void promise26RefusedCallsChangeNothing() {
        Play play = Play.livedIn();
        play.refused(WHERE_UNKNOWN, "where", 2, 5, 12);
        play.refused(WHERE_OUTSIDE, "where", 0, 3001, 12);
        play.refused(WHERE_OUTSIDE, "where", 0, 5, 3001);
    }

    // ---- 27: at

    @Sentence("as bits (place -1: gone ones)")
    private static void promise27PlaceFrom0To99OrGone() {
        Play play = withFigures(4);
        play.call("note", 0, 0, 0, 0);
        play.call("note", 1, 0, 0, 99);
        play.call("note", 2, 0, 0, GONE);
        play.idle(1, "at", 0, 0, 0);
        play.idle(2, "at", 99, 0, 0);
        play.idle(4, "at", GONE, 0, 0);
        play.outside(GONE, 99, "at", IT, 0, 0);
        play.refused(OUTSIDE, "at", NONE, 0, 0);
    }

    @Sentence("DAYS go from 0 to 3000.")
    private static void promise27DaysFrom0To3000() {
        Play play = withFigures(1);
        play.call("note", 0, 0, 0, 5);
        play.call("note", 0, 3000, 3000, 6);
        play.outside(0, 3000, "at", 5, IT, 0);
        play.outside(0, 3000, "at", 5, 0, IT);
        play.idle(1, "at", 5, 0, 0);
        play.idle(0, "at", 5, 3000, 3000);
        play.idle(1, "at", 6, 3000, 3000);
        play.idle(0, "at", 6, 3000, 2999);
    }

    @Sentence("FIGURES at a place on a DAY, as of another one, as bits")
    private static void promise27NoFigureAndAllTwelve() {
        Play play = new Play();
        play.idle(0, "at", 5, 3000, 3000);
        play.idle(0, "at", GONE, 3000, 3000);
        play.times(12, "figure");
        play.idle(0, "at", 5, 3000, 3000);
        play.idle(0, "at", GONE, 3000, 3000);
        for (int figure = 0; figure < 12; figure++) {
            play.call("note", figure, 1, 2, 5);
            play.due((2 << figure) - 1, "at", 5, 1, 2);
        }
        play.idle(4095, "at", 5, 3000, 3000);
        play.idle(0, "at", 5, 0, 3000);
        play.idle(0, "at", 5, 3000, 1);
        play.call("note", 11, 1, 3, GONE);
        play.idle(2047, "at", 5, 1, 3);
        play.idle(2048, "at", GONE, 1, 3);
    }

    @Sentence("FIGURES at a place on a DAY, as of another one, as bits")
    private static void promise27AsOfTheDayTold() {
        Play play = withFigures(2);
        play.call("note", 0, 5, 6, 10);
        play.call("note", 1, 5, 9, 10);
        play.due(0, "at", 10, 5, 5);
        play.due(1, "at", 10, 5, 6);
        play.due(1, "at", 10, 5, 8);
        play.due(3, "at", 10, 5, 9);
        play.due(0, "at", 10, 4, 9);
    }

    @Sentence("They change nothing.")
    private static void promise27RefusedCallsChangeNothing() {
        Play play = Play.livedIn();
        play.refused(OUTSIDE, "at", 100, 5, 12);
        play.refused(OUTSIDE, "at", 3, 3001, 12);
        play.refused(OUTSIDE, "at", 3, 5, 3001);
    }

    // ---- 28: turns

    @Sentence("(there is no such THING, WALL, TRAIN, RING, FIGURE)")
    private static void promise28UnknownFigure() {
        Play play = new Play();
        play.unknown(0, "turns", IT, 0);
        play.call("figure");
        play.unknown(1, "turns", IT, 0);
        play.times(11, "figure");
        play.idle(0, "turns", 11, 0);
        play.unknown(12, "turns", IT, 0);
    }

    @Sentence("DAYS go from 0 to 3000.")
    private static void promise28DaysFrom0To3000() {
        Play play = withFigures(1);
        play.call("note", 0, 0, 0, 5);
        play.call("note", 0, 3000, 3000, 6);
        play.outside(0, 3000, "turns", 0, IT);
        play.idle(1, "turns", 0, 0);
        play.idle(1, "turns", 0, 2999);
        play.idle(2, "turns", 0, 3000);
    }

    @Sentence("became other than it was said just ahead of them: how many.")
    private static void promise28NoNotesAndTheFirst() {
        Play play = withFigures(2);
        play.due(0, "turns", 0, 3000);
        play.call("note", 1, 5, 5, 7);
        play.due(0, "turns", 0, 3000);
        play.call("note", 0, 5, 5, GONE);
        play.due(1, "turns", 0, 3000);
        play.due(1, "turns", 0, 5);
        play.due(0, "turns", 0, 4);
    }

    @Sentence("became other than it was said just ahead of them: how many.")
    private static void promise28TheSameSaidAgain() {
        Play play = withFigures(1);
        play.call("note", 0, 5, 5, 7);
        play.call("note", 0, 5, 5, 7);
        play.call("note", 0, 6, 6, 7);
        play.due(1, "turns", 0, 6);
        play.call("note", 0, 6, 6, 8);
        play.call("note", 0, 6, 6, 7);
        play.due(3, "turns", 0, 6);
        play.due(1, "turns", 0, 5);
    }

    @Sentence("NOTES by which what was said of a FIGURE on a DAY became other")
    private static void promise28NotesThatSayNothingOfThatDay() {
        Play play = withFigures(1);
        play.call("note", 0, 5, 9, 7);
        // of an earlier day, than the one that already tells
        play.call("note", 0, 4, 9, 8);
        play.due(1, "turns", 0, 5);
        play.due(1, "turns", 0, 4);
        // of a later day
        play.call("note", 0, 6, 9, 9);
        play.due(1, "turns", 0, 5);
        play.due(2, "turns", 0, 6);
        // of the same day
        play.call("note", 0, 5, 9, 10);
        play.due(2, "turns", 0, 5);
        play.due(2, "turns", 0, 6);
        play.due(1, "turns", 0, 4);
    }

    @Sentence("became other than it was said just ahead of them: how many.")
    private static void promise28SixtyTurns() {
        Play play = withFigures(1);
        for (int note = 0; note < 60; note++) {
            play.call("note", 0, 5, 5, note % 2 == 0 ? GONE : 0);
            play.due(note + 1, "turns", 0, 5);
        }
        play.due(0, "turns", 0, 4);
    }

    @Sentence("the first of these that fits")
    private static void promise28UnknownAheadOfOutside() {
        Play play = withFigures(1);
        play.refused(UNKNOWN, "turns", 1, 3001);
        play.refused(UNKNOWN, "turns", -1, -1);
    }

    @Sentence("They change nothing.")
    private static void promise28RefusedCallsChangeNothing() {
        Play play = Play.livedIn();
        play.refused(UNKNOWN, "turns", 2, 5);
        play.refused(OUTSIDE, "turns", 0, 3001);
    }

    // ---- 29: told

    @Sentence("8 FIGURES, 9 NOTES. OUTSIDE.")
    private static void promise29What0To9() {
        Play play = new Play();
        for (int what = 0; what <= 9; what++) {
            play.idle(what == 4 ? 20 : 0, "told", what);
        }
        play.outside(0, 9, "told", IT);
    }

    @Sentence("0 RULES, 1 THINGS, 2 WALLS, 3 WEEK, 4 HANDS, 5 RINGS, 6 TRAINS, 7 MINUTES so far")
    private static void promise29AllFull() {
        Play play = new Play();
        play.times(7, "rule", 0, 12, 10);
        play.times(21, "thing", 0, 100, 1, 0);
        play.times(25, "wall", 0, 0, 1);
        play.times(201, "week");
        play.call("hands", 500);
        play.times(4, "ring");
        for (int block = 0; block < 12; block++) {
            play.call("block", 0, block);
        }
        for (int place = 0; place < 5; place++) {
            play.call("train", 0, place, 1);
        }
        play.times(3, "run", 500);
        play.times(13, "figure");
        play.times(61, "note", 0, 0, 0, 0);
        int[] due = {6, 20, 24, 200, 500, 3, 4, 1500, 12, 60};
        for (int what = 0; what <= 9; what++) {
            play.due(due[what], "told", what);
        }
        play.due(OUTSIDE, "told", 10);
    }

    @Sentence("0 RULES, 1 THINGS, 2 WALLS, 3 WEEK, 4 HANDS, 5 RINGS, 6 TRAINS, 7 MINUTES so far")
    private static void promise29RefusedCallsAreNotCounted() {
        Play play = new Play();
        play.refused(OUTSIDE, "rule", 0, 1, 0);
        play.refused(OUTSIDE, "thing", 3, 100, 1, 0);
        play.refused(OUTSIDE, "wall", 0, 0, 0);
        play.refused(OUTSIDE, "hands", 501);
        play.refused(UNKNOWN, "train", 0, 0, 1);
        play.refused(OUTSIDE, "run", 501);
        play.refused(UNKNOWN, "note", 0, 0, 0, 0);
        for (int what = 0; what <= 9; what++) {
            play.due(what == 4 ? 20 : 0, "told", what);
        }
    }

    @Sentence("They change nothing.")
    private static void promise29RefusedCallsChangeNothing() {
        Play play = Play.livedIn();
        play.refused(OUTSIDE, "told", 10);
        play.refused(OUTSIDE, "told", -1);
    }
}
