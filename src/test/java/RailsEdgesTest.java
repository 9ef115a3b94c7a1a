import java.io.IOException;

/** Promises 17 to 23, sentence by sentence: each boundary case that the document names. */
public final class RailsEdgesTest {
    private static final int NONE = -6, UNKNOWN = -1, OUTSIDE = -2, STATE = -3, FULL = -4, NO = -5;
    private static final Object IT = Play.IT;

    public static void main(String[] args) throws IOException {
        Edges.run(RailsEdgesTest.class, 17, 23);
    }

    /** A town with a further ring of blocks from one on. */
    private static void ring(Play play, int firstBlock, int blocks) {
        int ring = play.call("ring");
        for (int block = 0; block < blocks; block++) {
            play.call("block", ring, firstBlock + block);
        }
    }

    private static Play withRing(int blocks) {
        Play play = new Play();
        ring(play, 10, blocks);
        return play;
    }

    // ---- 17: ring

    @Sentence("RINGS, 3 at most, numbered from 0 on")
    private static void promise17RingsThreeAtMost() {
        Play play = new Play();
        for (int ring = 0; ring < 3; ring++) {
            play.due(ring, "ring");
            play.due(ring + 1, "told", 5);
        }
        play.refused(FULL, "ring");
        play.due(3, "told", 5);
    }

    @Sentence("A RING without BLOCKS: its number.")
    private static void promise17WithoutBlocks() {
        Play play = withRing(12);
        play.due(1, "ring");
        play.refused(STATE, "train", 1, 0, 1);
        play.due(1, "block", 1, 10);
    }

    @Sentence("They change nothing.")
    private static void promise17RefusedCallsChangeNothing() {
        Play full = Play.full();
        full.refused(FULL, "ring");
    }

    // ---- 18: block

    @Sentence("(there is no such THING, WALL, TRAIN, RING, FIGURE)")
    private static void promise18UnknownRing() {
        Play play = new Play();
        play.unknown(0, "block", IT, 0);
        play.call("ring");
        play.unknown(1, "block", IT, 0);
        play.times(2, "ring");
        play.unknown(3, "block", IT, 0);
        play.due(1, "block", 2, 0);
    }

    @Sentence("rows of 2 to 12 BLOCKS (0 to 29)")
    private static void promise18BlocksFrom0To29() {
        Play play = new Play();
        play.call("ring");
        play.outside(0, 29, "block", 0, IT);
        play.due(1, "block", 0, 0);
        play.due(2, "block", 0, 29);
        play.outside(0, 29, "block", 0, IT);
    }

    @Sentence("UNKNOWN; OUTSIDE; STATE: a TRAIN is on it; FULL: 12; NO: it has it.")
    private static void promise18TwelveBlocks() {
        Play play = new Play();
        play.call("ring");
        for (int block = 0; block < 12; block++) {
            play.due(block + 1, "block", 0, 29 - block);
        }
        play.refused(FULL, "block", 0, 0);
        play.refused(FULL, "block", 0, 17);
        // another ring is not full with it
        play.call("ring");
        play.due(1, "block", 1, 0);
    }

    @Sentence("told one by one, none twice in one")
    private static void promise18NoneTwiceInOneRing() {
        Play play = new Play();
        play.call("ring");
        play.due(1, "block", 0, 0);
        play.refused(NO, "block", 0, 0);
        play.due(2, "block", 0, 29);
        play.due(3, "block", 0, 5);
        play.refused(NO, "block", 0, 0);
        play.refused(NO, "block", 0, 29);
        play.refused(NO, "block", 0, 5);
        play.due(4, "block", 0, 6);
    }

    @Sentence("RINGS may have BLOCKS in common.")
    private static void promise18BlocksInCommon() {
        Play play = new Play();
        play.times(3, "ring");
        for (int ring = 0; ring < 3; ring++) {
            for (int block = 0; block < 12; block++) {
                play.due(block + 1, "block", ring, block);
            }
        }
    }

    @Sentence("STATE: a TRAIN is on it")
    private static void promise18ATrainIsOnIt() {
        Play play = withRing(2);
        ring(play, 20, 2);
        play.due(3, "block", 0, 12);
        play.call("train", 0, 2, 1);
        play.refused(STATE, "block", 0, 13);
        // no train is on the other ring
        play.due(3, "block", 1, 22);
        play.call("train", 1, 0, 1);
        play.refused(STATE, "block", 1, 23);
        play.call("stick", 0, true);
        play.refused(STATE, "block", 0, 13);
    }

    @Sentence("A BLOCK behind the last one of a RING: how many it has.")
    private static void promise18BehindTheLastOne() {
        Play play = new Play();
        play.call("ring");
        int[] blocks = {7, 0, 29, 3};
        for (int place = 0; place < blocks.length; place++) {
            play.due(place + 1, "block", 0, blocks[place]);
        }
        play.call("train", 0, 0, 1);
        for (int place = 0; place < blocks.length; place++) {
            play.due(blocks[place], "trainOf", 0, 2);
            play.call("run", 1);
        }
        play.due(7, "trainOf", 0, 2);
    }

    @Sentence("the first of these that fits")
    private static void promise18OrderOfRefusals() {
        Play play = withRing(12);
        play.refused(UNKNOWN, "block", 1, 30);
        play.refused(UNKNOWN, "block", -1, 10);
        play.refused(OUTSIDE, "block", 0, 30);
        play.refused(OUTSIDE, "block", 0, -1);
        play.refused(FULL, "block", 0, 10);
        play.call("train", 0, 0, 1);
        play.refused(OUTSIDE, "block", 0, 30);
        play.refused(STATE, "block", 0, 0);
        play.refused(STATE, "block", 0, 10);
        Play shorter = withRing(2);
        shorter.refused(OUTSIDE, "block", 0, -1);
        shorter.call("train", 0, 0, 1);
        shorter.refused(STATE, "block", 0, 10);
    }

    @Sentence("They change nothing.")
    private static void promise18RefusedCallsChangeNothing() {
        Play play = Play.livedIn();
        play.refused(UNKNOWN, "block", 2, 9);
        play.refused(OUTSIDE, "block", 0, 30);
        play.refused(STATE, "block", 0, 9);
        play.refused(STATE, "block", 1, 9);
        Play full = Play.full();
        full.refused(FULL, "block", 2, 20);
        Play bare = Play.livedIn();
        bare.call("ring");
        bare.call("block", 2, 9);
        bare.refused(NO, "block", 2, 9);
    }

    // ---- 19: train

    @Sentence("(there is no such THING, WALL, TRAIN, RING, FIGURE)")
    private static void promise19UnknownRing() {
        Play play = new Play();
        play.unknown(0, "train", IT, 0, 1);
        ring(play, 0, 2);
        ring(play, 4, 2);
        play.unknown(2, "train", IT, 0, 1);
        ring(play, 8, 2);
        play.unknown(3, "train", IT, 0, 1);
        play.due(0, "train", 2, 0, 1);
    }

    @Sentence("OUTSIDE: the place (0 to 11; of a RING of two BLOCKS or more one of them), MINUTES")
    private static void promise19PlaceOfARingOfTwoOrMore() {
        for (int blocks = 2; blocks <= 12; blocks++) {
            Play play = withRing(blocks);
            play.outside(0, blocks - 1, "train", 0, IT, 1);
            play.refused(OUTSIDE, "train", 0, 12, 1);
            play.due(0, "train", 0, 0, 1);
            play.due(1, "train", 0, blocks - 1, 1);
            play.due(blocks - 1, "trainOf", 1, 1);
        }
    }

    @Sentence("OUTSIDE: the place (0 to 11; of a RING of two BLOCKS or more one of them), MINUTES")
    private static void promise19PlaceOfAShorterRing() {
        for (int blocks = 0; blocks <= 1; blocks++) {
            Play play = withRing(blocks);
            play.outside(0, 11, "train", 0, IT, 1);
            play.refused(STATE, "train", 0, 0, 1);
            play.refused(STATE, "train", 0, 1, 1);
            play.refused(STATE, "train", 0, 11, 1);
        }
    }

    @Sentence("each so many MINUTES (1 to 9) in each BLOCK")
    private static void promise19MinutesFrom1To9() {
        Play play = withRing(4);
        play.outside(1, 9, "train", 0, 0, IT);
        play.due(0, "train", 0, 3, 1);
        play.due(1, "train", 0, 1, 9);
        play.due(1, "run", 1);
        play.due(1, "trainOf", 0, 6);
        play.due(0, "trainOf", 1, 6);
    }

    @Sentence("STATE: the RING has but one BLOCK, or none")
    private static void promise19RingOfOneBlockOrNone() {
        Play play = new Play();
        play.call("ring");
        play.refused(STATE, "train", 0, 0, 1);
        play.call("block", 0, 3);
        play.refused(STATE, "train", 0, 0, 1);
        play.call("block", 0, 4);
        play.due(0, "train", 0, 0, 1);
    }

    @Sentence("TRAINS, 4 at most, numbered from 0 on")
    private static void promise19TrainsFourAtMost() {
        Play play = withRing(3);
        ring(play, 20, 3);
        play.due(0, "train", 0, 0, 1);
        play.due(1, "train", 1, 1, 1);
        play.due(2, "train", 0, 1, 1);
        play.due(3, "train", 1, 2, 1);
        play.refused(FULL, "train", 0, 2, 1);
        play.refused(FULL, "train", 1, 0, 1);
        play.due(4, "told", 6);
    }

    @Sentence("no two may be put into one BLOCK")
    private static void promise19NoTwoIntoOneBlock() {
        Play play = withRing(3);
        play.call("ring");
        play.call("block", 1, 20);
        play.call("block", 1, 10);
        play.due(0, "train", 0, 0, 1);
        play.refused(NO, "train", 0, 0, 1);
        // the block is in common with another ring, of which it is the second
        play.refused(NO, "train", 1, 1, 1);
        play.call("run", 1);
        play.due(1, "train", 1, 1, 1);
        play.refused(NO, "train", 0, 1, 1);
    }

    @Sentence("A TRAIN at a place of a RING: its number.")
    private static void promise19RefusedOnesTakeNoNumber() {
        Play play = withRing(3);
        play.refused(OUTSIDE, "train", 0, 3, 1);
        play.due(0, "train", 0, 2, 1);
        play.refused(NO, "train", 0, 2, 1);
        play.due(1, "train", 0, 1, 1);
        play.due(2, "told", 6);
    }

    @Sentence("the first of these that fits")
    private static void promise19OrderOfRefusals() {
        Play play = withRing(5);
        play.call("ring");
        play.call("block", 1, 10);
        play.call("train", 0, 0, 1);
        play.refused(UNKNOWN, "train", 2, 12, 1);
        play.refused(UNKNOWN, "train", -1, 0, 0);
        play.refused(OUTSIDE, "train", 1, 12, 1);
        play.refused(OUTSIDE, "train", 1, 0, 10);
        play.refused(OUTSIDE, "train", 0, 0, 0);
        play.refused(STATE, "train", 1, 0, 1);
        for (int place = 1; place < 4; place++) {
            play.call("train", 0, place, 1);
        }
        play.refused(UNKNOWN, "train", 2, 0, 1);
        play.refused(OUTSIDE, "train", 0, 5, 1);
        play.refused(OUTSIDE, "train", 0, 4, 10);
        play.refused(STATE, "train", 1, 0, 1);
        play.refused(FULL, "train", 0, 0, 1);
    }

    @Sentence("They change nothing.")
    private static void promise19RefusedCallsChangeNothing() {
        Play play = Play.livedIn();
        play.refused(UNKNOWN, "train", 2, 0, 1);
        play.refused(OUTSIDE, "train", 0, 4, 1);
        play.refused(OUTSIDE, "train", 0, 3, 10);
        play.refused(NO, "train", 0, 1, 1);
        play.call("ring");
        play.refused(STATE, "train", 2, 0, 1);
        Play full = Play.full();
        full.refused(FULL, "train", 2, 0, 1);
    }

    // ---- 20: stick

    @Sentence("(there is no such THING, WALL, TRAIN, RING, FIGURE)")
    private static void promise20UnknownTrain() {
        Play play = withRing(5);
        play.unknown(0, "stick", IT, true);
        play.call("train", 0, 0, 1);
        play.unknown(1, "stick", IT, true);
        for (int place = 1; place < 4; place++) {
            play.call("train", 0, place, 1);
        }
        play.unknown(4, "stick", IT, true);
        play.unknown(4, "stick", IT, false);
        play.due(0, "stick", 3, true);
    }

    @Sentence("A TRAIN is STUCK, or not: whether it was.")
    private static void promise20WhetherItWas() {
        Play play = withRing(3);
        play.call("train", 0, 0, 1);
        play.call("train", 0, 1, 1);
        play.due(0, "stick", 0, false);
        play.due(0, "stick", 0, true);
        play.due(1, "stick", 0, true);
        play.due(0, "stick", 1, false);
        play.due(1, "stick", 0, false);
        play.due(0, "stick", 0, false);
    }

    @Sentence("They change nothing.")
    private static void promise20RefusedCallsChangeNothing() {
        Play play = Play.livedIn();
        play.refused(UNKNOWN, "stick", 3, true);
        play.refused(UNKNOWN, "stick", -1, true);
    }

    // ---- 21: run

    @Sentence("n MINUTES (1 to 500) go: how often a TRAIN went on.")
    private static void promise21MinutesFrom1To500() {
        Play play = withRing(2);
        play.call("train", 0, 0, 1);
        play.due(1, "run", 1);
        play.due(500, "run", 500);
        play.outside(1, 500, "run", IT);
        play.due(501, "told", 7);
    }

    @Sentence("n MINUTES (1 to 500) go: how often a TRAIN went on.")
    private static void promise21WithoutTrains() {
        Play play = new Play();
        play.due(0, "run", 500);
        play.due(500, "told", 7);
        Play ring = withRing(2);
        ring.due(0, "run", 1);
    }

    @Sentence("n MINUTES (1 to 500) go: how often a TRAIN went on.")
    private static void promise21AllFourGoOn() {
        Play play = withRing(12);
        for (int place = 0; place < 12; place += 3) {
            play.call("train", 0, place, 1);
        }
        play.due(2000, "run", 500);
        for (int train = 0; train < 4; train++) {
            play.due(500, "trainOf", train, 6);
            play.due((3 * train + 500) % 12, "trainOf", train, 1);
        }
    }

    @Sentence("A MINUTE: TRAINS by numbers")
    private static void promise21TrainsByNumbers() {
        Play play = withRing(4);
        play.call("train", 0, 1, 1);
        play.call("train", 0, 0, 1);
        // the lesser number is ahead, and leaves its block just in time
        play.due(2, "run", 1);
        play.due(0, "trainOf", 1, 5);
        Play other = withRing(4);
        other.call("train", 0, 0, 1);
        other.call("train", 0, 1, 1);
        other.due(1, "run", 1);
        other.due(1, "trainOf", 0, 5);
        other.due(2, "trainOf", 1, 1);
    }

    @Sentence("one that is not STUCK has been one MINUTE longer in its BLOCK")
    private static void promise21OneMinuteLonger() {
        Play play = withRing(2);
        play.call("train", 0, 0, 9);
        for (int minute = 0; minute < 9; minute++) {
            play.due(minute, "trainOf", 0, 3);
            play.call("run", 1);
        }
        play.due(0, "trainOf", 0, 3);
    }

    @Sentence("if that is its MINUTES or more, it goes on to its RING's next BLOCK")
    private static void promise21ItsMinutesOrMore() {
        for (int minutes = 1; minutes <= 9; minutes++) {
            Play play = withRing(3);
            play.call("train", 0, 0, minutes);
            if (minutes > 1) {
                play.due(0, "run", minutes - 1);
            }
            play.due(1, "run", 1);
            play.due(1, "trainOf", 0, 1);
        }
        // more than its minutes: it goes on as soon as it can
        Play more = withRing(3);
        more.call("train", 0, 0, 2);
        more.call("train", 0, 1, 9);
        more.due(1, "run", 9);
        more.due(0, "trainOf", 0, 6);
        more.due(1, "run", 1);
        more.due(1, "trainOf", 0, 6);
    }

    @Sentence("go round a RING, from a place (by its order) on")
    private static void promise21RoundFromTheLastBlockToTheFirst() {
        for (int blocks = 2; blocks <= 12; blocks++) {
            Play play = withRing(blocks);
            play.call("train", 0, blocks - 1, 1);
            play.due(blocks - 1, "trainOf", 0, 1);
            play.due(1, "run", 1);
            play.due(0, "trainOf", 0, 1);
            play.due(10, "trainOf", 0, 2);
            play.due(blocks, "run", blocks);
            play.due(0, "trainOf", 0, 1);
        }
    }

    @Sentence("it goes on to its RING's next BLOCK, if no TRAIN is there now (0 MINUTES then)")
    private static void promise21MinutesBeginAgain() {
        Play play = withRing(4);
        play.call("train", 0, 0, 3);
        play.call("train", 0, 1, 5);
        play.call("run", 5);
        // train 1 went on in the 5th minute, train 0 waited for it in the 3rd to the 5th
        play.due(0, "trainOf", 1, 3);
        play.due(5, "trainOf", 0, 3);
        play.due(1, "run", 1);
        play.due(0, "trainOf", 0, 3);
        play.due(3, "trainOf", 0, 5);
        play.due(0, "run", 2);
        play.due(2, "trainOf", 0, 3);
    }

    @Sentence("if no TRAIN is there now")
    private static void promise21NoTrainOfAnotherRingIsThere() {
        Play play = withRing(2);
        play.call("ring");
        play.call("block", 1, 11);
        play.call("block", 1, 20);
        play.call("train", 0, 0, 1);
        play.call("train", 1, 0, 4);
        play.due(0, "run", 3);
        play.due(3, "trainOf", 0, 5);
        play.due(1, "run", 1);
        play.due(1, "run", 1);
        play.due(11, "trainOf", 0, 2);
    }

    @Sentence("else it WAITS.")
    private static void promise21WaitsOnlyWhenItsMinutesAreOver() {
        Play play = withRing(2);
        play.call("train", 0, 0, 9);
        play.call("train", 0, 1, 1);
        play.call("run", 8);
        play.due(0, "trainOf", 0, 5);
        play.due(8, "trainOf", 1, 5);
        play.call("run", 1);
        play.due(1, "trainOf", 0, 5);
        play.due(9, "trainOf", 1, 5);
    }

    @Sentence("STUCK ones stand.")
    private static void promise21StuckOnesStand() {
        Play play = withRing(3);
        play.call("train", 0, 0, 1);
        play.call("train", 0, 1, 1);
        play.call("stick", 1, true);
        play.due(0, "run", 500);
        play.due(0, "trainOf", 1, 3);
        play.due(0, "trainOf", 1, 5);
        play.due(0, "trainOf", 1, 6);
        play.due(500, "trainOf", 0, 5);
        play.call("stick", 1, false);
        play.due(1, "run", 1);
        play.due(1, "trainOf", 1, 6);
        play.due(2, "run", 1);
    }

    @Sentence("They change nothing.")
    private static void promise21RefusedCallsChangeNothing() {
        Play play = Play.livedIn();
        play.refused(OUTSIDE, "run", 501);
        play.refused(OUTSIDE, "run", 0);
    }

    // ---- 22: trainOf

    @Sentence("(there is no such THING, WALL, TRAIN, RING, FIGURE)")
    private static void promise22UnknownTrain() {
        Play play = withRing(5);
        play.unknown(0, "trainOf", IT, 0);
        play.call("train", 0, 0, 1);
        play.unknown(1, "trainOf", IT, 0);
        for (int place = 1; place < 4; place++) {
            play.call("train", 0, place, 1);
        }
        play.idle(3, "trainOf", 3, 1);
        play.unknown(4, "trainOf", IT, 0);
    }

    @Sentence("0 RING, 1 its place, 2 BLOCK, 3 MINUTES in it so far, 4 whether STUCK, 5 MINUTES it WAITED, "
        + "6 BLOCKS it went on")
    private static void promise22What0To7() {
        Play play = new Play();
        play.times(2, "ring");
        ring(play, 18, 12);
        play.call("train", 2, 11, 3);
        int[] due = {2, 11, 29, 0, 0, 0, 0, NONE};
        for (int what = 0; what <= 7; what++) {
            play.idle(due[what], "trainOf", 0, what);
        }
        play.outside(0, 7, "trainOf", 0, IT);
        play.call("train", 2, 0, 9);
        play.call("run", 8);
        play.call("stick", 0, true);
        int[] later = {2, 11, 29, 8, 1, 6, 0, 1};
        for (int what = 0; what <= 7; what++) {
            play.idle(later[what], "trainOf", 0, what);
        }
    }

    @Sentence("7 the TRAIN that is in its next BLOCK (NONE)")
    private static void promise22TrainInItsNextBlock() {
        Play play = withRing(4);
        ring(play, 11, 2);
        play.call("train", 0, 3, 9);
        play.due(NONE, "trainOf", 0, 7);
        // round to the first block, and into a block of another ring
        play.call("train", 0, 0, 9);
        play.due(1, "trainOf", 0, 7);
        play.due(NONE, "trainOf", 1, 7);
        play.call("train", 1, 0, 9);
        play.due(2, "trainOf", 1, 7);
        play.due(NONE, "trainOf", 2, 7);
        play.call("train", 0, 2, 9);
        play.due(0, "trainOf", 3, 7);
        play.due(3, "trainOf", 2, 7);
    }

    @Sentence("the first of these that fits")
    private static void promise22UnknownAheadOfOutside() {
        Play play = withRing(2);
        play.call("train", 0, 0, 1);
        play.refused(UNKNOWN, "trainOf", 1, 8);
        play.refused(UNKNOWN, "trainOf", -1, -1);
    }

    @Sentence("They change nothing.")
    private static void promise22RefusedCallsChangeNothing() {
        Play play = Play.livedIn();
        play.refused(UNKNOWN, "trainOf", 3, 0);
        play.refused(OUTSIDE, "trainOf", 0, 8);
    }

    // ---- 23: stands

    @Sentence("TRAINS that can never go on again, as things are, as bits.")
    private static void promise23NoTrains() {
        Play play = new Play();
        play.idle(0, "stands");
        ring(play, 0, 2);
        play.idle(0, "stands");
    }

    @Sentence("(each is STUCK, or behind others that never do)")
    private static void promise23OneThatIsStuck() {
        Play play = withRing(2);
        play.call("train", 0, 0, 1);
        play.idle(0, "stands");
        play.call("stick", 0, true);
        play.idle(1, "stands");
        play.call("stick", 0, false);
        play.idle(0, "stands");
    }

    @Sentence("(each is STUCK, or behind others that never do)")
    private static void promise23BehindTheStuckOneInEitherOrder() {
        Play play = withRing(5);
        for (int place = 0; place < 4; place++) {
            play.call("train", 0, place, 1);
        }
        Play against = withRing(5);
        for (int place = 3; place >= 0; place--) {
            against.call("train", 0, place, 1);
        }
        // stuck is the one at a place: it and all behind it stand, those ahead of it go on
        int[] due = {1, 3, 7, 15};
        int[] dueAgainst = {8, 12, 14, 15};
        for (int place = 0; place < 4; place++) {
            play.call("stick", place, true);
            play.idle(due[place], "stands");
            play.call("stick", place, false);
            against.call("stick", 3 - place, true);
            against.idle(dueAgainst[place], "stands");
            against.call("stick", 3 - place, false);
        }
        play.idle(0, "stands");
        against.idle(0, "stands");
    }

    @Sentence("Where no TRAIN can ever go on again")
    private static void promise23AFullRing() {
        for (int blocks = 2; blocks <= 4; blocks++) {
            Play play = withRing(blocks);
            for (int place = 0; place < blocks; place++) {
                play.idle(0, "stands");
                play.call("train", 0, place, 1);
            }
            play.idle((1 << blocks) - 1, "stands");
            play.due(0, "run", 500);
            play.due((1 << blocks) - 1, "stands");
        }
    }

    @Sentence("Where no TRAIN can ever go on again")
    private static void promise23ACircleThroughTwoRings() {
        Play play = new Play();
        play.times(2, "ring");
        play.call("block", 0, 0);
        play.call("block", 0, 1);
        play.call("block", 0, 2);
        play.call("block", 1, 1);
        play.call("block", 1, 0);
        play.call("block", 1, 3);
        play.call("train", 0, 0, 9);
        play.idle(0, "stands");
        play.call("train", 1, 0, 9);
        play.idle(3, "stands");
        // one that is behind the circle, and one that is not
        play.call("train", 0, 2, 1);
        play.idle(7, "stands");
        play.due(0, "run", 100);
    }

    @Sentence("TRAINS that can never go on again, as things are, as bits.")
    private static void promise23OnesThatWaitButCanGoOn() {
        Play play = withRing(5);
        for (int place = 0; place < 4; place++) {
            play.call("train", 0, place, place == 3 ? 9 : 1);
        }
        play.call("run", 5);
        play.due(5, "trainOf", 0, 5);
        play.idle(0, "stands");
    }

    @Sentence("as things are, as bits.")
    private static void promise23OnesElsewhereGoOn() {
        Play play = withRing(2);
        ring(play, 20, 2);
        play.call("train", 0, 0, 1);
        play.call("train", 1, 0, 1);
        play.call("train", 0, 1, 1);
        play.idle(5, "stands");
        play.due(10, "run", 10);
        play.call("stick", 1, true);
        play.idle(7, "stands");
        play.call("stick", 0, true);
        play.idle(7, "stands");
        play.call("stick", 1, false);
        play.idle(5, "stands");
    }
}
