/**
 * A town in small: things held to scale, walls that fade and are painted,
 * trains on rings of blocks, and figures in a book with two times.
 *
 * <p>Every row is made in a constructor and used again; no later call makes an object.
 */
public final class ModelTown {
    public static final int NONE = -6, UNKNOWN = -1, OUTSIDE = -2, STATE = -3, FULL = -4, NO = -5;

    private static final int LAST_DAY = 3000;

    private final Scale scale;
    private final Paint paint;
    private final Rails rails;
    private final Book book;

    public ModelTown() {
        scale = new Scale();
        paint = new Paint();
        rails = new Rails();
        book = new Book();
    }

    // ---- 1 scale

    public int rule(int day, int ratio, int slack) {
        return scale.addRule(day, ratio, slack);
    }

    public int force(int day, int what) {
        return scale.inForce(day, what);
    }

    public int thing(int sort, int trueSize, int size, int grow) {
        return scale.addThing(sort, trueSize, size, grow);
    }

    public int clip(int thing, int day, int size) {
        return scale.clipTree(thing, day, size);
    }

    public int look(int thing, int day, int what) {
        return scale.lookAt(thing, day, what);
    }

    public int fault(int day) {
        return scale.firstFaulty(day);
    }

    public int spoils(int thing, int from) {
        return scale.firstFaultyDay(thing, from);
    }

    // ---- 2 walls

    public int fade(int side, int v) {
        return paint.setFade(side, v);
    }

    public int wall(int house, int side, int hours) {
        return paint.addWall(house, side, hours);
    }

    public int wallOf(int wall, int what) {
        return paint.aboutWall(wall, what);
    }

    public int hands(int hours) {
        return paint.setHands(hours);
    }

    public int frost(int week, boolean is) {
        return paint.setFrost(week, is);
    }

    public int week() {
        return paint.goWeek();
    }

    public int foretell(int n, int what) {
        return paint.leastForetold(n, what);
    }

    public int enough(int n, int look) {
        return paint.fewestHands(n, look);
    }

    // ---- 3 trains

    public int ring() {
        return rails.addRing();
    }

    public int block(int ring, int block) {
        return rails.addBlock(ring, block);
    }

    public int train(int ring, int place, int minutes) {
        return rails.addTrain(ring, place, minutes);
    }

    public int stick(int train, boolean is) {
        return rails.setStuck(train, is);
    }

    public int run(int n) {
        return rails.goMinutes(n);
    }

    public int trainOf(int train, int what) {
        return rails.aboutTrain(train, what);
    }

    public int stands() {
        return rails.standing();
    }

    // ---- 4 figures

    public int figure() {
        return book.addFigure();
    }

    public int note(int figure, int day, int toldOn, int place) {
        return book.addNote(figure, day, toldOn, place);
    }

    public int where(int figure, int day, int asOf) {
        return book.whereIs(figure, day, asOf);
    }

    public int at(int place, int day, int asOf) {
        return book.figuresAt(place, day, asOf);
    }

    public int turns(int figure, int day) {
        return book.turnsOf(figure, day);
    }

    public int told(int what) {
        switch (what) {
            case 0: return scale.rules;
            case 1: return scale.things;
            case 2: return paint.walls;
            case 3: return paint.week;
            case 4: return paint.hands;
            case 5: return rails.rings;
            case 6: return rails.trains;
            case 7: return rails.minutesGone;
            case 8: return book.figures;
            case 9: return book.notes;
            default: return OUTSIDE;
        }
    }

    private static boolean isWithin(int number, int least, int greatest) {
        return number >= least && number <= greatest;
    }

    private static boolean isDay(int day) {
        return isWithin(day, 0, LAST_DAY);
    }

    private static int oneIf(boolean is) {
        return is ? 1 : 0;
    }

    /** Section 1: rules from their days on, and the things that they hold to scale. */
    private static final class Scale {
        private static final int MAX_RULES = 6, MAX_THINGS = 20, MAX_CLIPPINGS = 60;
        private static final int FIRST_RATIO = 12, FIRST_SLACK = 10;
        private static final int MAX_SIZE = 9000, MAX_GROW = 50, DAYS_TO_GROW = 7;
        private static final int HOUSE = 0, TREE = 1, WATER = 2;
        private static final int FAIR = 0, TOO_GREAT = 1, TOO_SMALL = 2;

        private final int[] ruleDay = new int[MAX_RULES];
        private final int[] ruleRatio = new int[MAX_RULES];
        private final int[] ruleSlack = new int[MAX_RULES];
        private int rules;

        private final int[] sorts = new int[MAX_THINGS];
        private final int[] trueSizes = new int[MAX_THINGS];
        private final int[] firstSizes = new int[MAX_THINGS];
        private final int[] grows = new int[MAX_THINGS];
        private int things;

        private final int[] clipThing = new int[MAX_CLIPPINGS];
        private final int[] clipDay = new int[MAX_CLIPPINGS];
        private final int[] clipSize = new int[MAX_CLIPPINGS];
        private int clippings;

        int addRule(int day, int ratio, int slack) {
            if (!isDay(day) || !isWithin(ratio, 2, 30) || !isWithin(slack, 0, 50)) {
                return OUTSIDE;
            }
            if (rules >= MAX_RULES) {
                return FULL;
            }
            ruleDay[rules] = day;
            ruleRatio[rules] = ratio;
            ruleSlack[rules] = slack;
            rules++;
            return rules;
        }

        int inForce(int day, int what) {
            if (!isDay(day) || !isWithin(what, 0, 1)) {
                return OUTSIDE;
            }
            return what == 0 ? ratioOn(day) : slackOn(day);
        }

        int addThing(int sort, int trueSize, int size, int grow) {
            if (!isWithin(sort, HOUSE, WATER) || !isWithin(trueSize, 100, 60000)
                    || !isWithin(size, 1, MAX_SIZE) || !isWithin(grow, 0, MAX_GROW)) {
                return OUTSIDE;
            }
            if (things >= MAX_THINGS) {
                return FULL;
            }
            sorts[things] = sort;
            trueSizes[things] = trueSize;
            firstSizes[things] = size;
            grows[things] = sort == TREE ? grow : 0;
            things++;
            return things - 1;
        }

        int clipTree(int thing, int day, int size) {
            if (!isThing(thing)) {
                return UNKNOWN;
            }
            if (!isDay(day) || !isWithin(size, 1, MAX_SIZE)) {
                return OUTSIDE;
            }
            if (sorts[thing] != TREE) {
                return STATE;
            }
            if (clippings >= MAX_CLIPPINGS) {
                return FULL;
            }
            int latest = clippingOn(thing, LAST_DAY);
            if (latest != NONE && day < clipDay[latest]) {
                return NO;
            }
            int sizeAhead = sizeOn(thing, day);
            clipThing[clippings] = thing;
            clipDay[clippings] = day;
            clipSize[clippings] = size;
            clippings++;
            return sizeAhead;
        }

        int lookAt(int thing, int day, int what) {
            if (!isThing(thing)) {
                return UNKNOWN;
            }
            if (!isDay(day)) {
                return OUTSIDE;
            }
            switch (what) {
                case 0: return sizeOn(thing, day);
                case 1: return dueOn(thing, day);
                case 2: return faultOn(thing, day);
                default: return OUTSIDE;
            }
        }

        int firstFaulty(int day) {
            if (!isDay(day)) {
                return OUTSIDE;
            }
            for (int thing = 0; thing < things; thing++) {
                if (faultOn(thing, day) != FAIR) {
                    return thing;
                }
            }
            return NONE;
        }

        int firstFaultyDay(int thing, int from) {
            if (!isThing(thing)) {
                return UNKNOWN;
            }
            if (!isDay(from)) {
                return OUTSIDE;
            }
            for (int day = from; day <= LAST_DAY; day++) {
                if (faultOn(thing, day) != FAIR) {
                    return day;
                }
            }
            return NONE;
        }

        private boolean isThing(int thing) {
            return isWithin(thing, 0, things - 1);
        }

        /** The number of the rule in force on a day; NONE ahead of all. */
        private int ruleOn(int day) {
            int best = NONE;
            for (int r = 0; r < rules; r++) {
                if (ruleDay[r] <= day && (best == NONE || ruleDay[r] >= ruleDay[best])) {
                    best = r;
                }
            }
            return best;
        }

        /** Never 0, as addRule takes ratios of 2 or more alone: it may divide. */
        private int ratioOn(int day) {
            int rule = ruleOn(day);
            return rule == NONE ? FIRST_RATIO : ruleRatio[rule];
        }

        private int slackOn(int day) {
            int rule = ruleOn(day);
            return rule == NONE ? FIRST_SLACK : ruleSlack[rule];
        }

        /** The number of a thing's last clipping up to a day; NONE without any. */
        private int clippingOn(int thing, int day) {
            // a tree's clippings stand in the order of their days, so the first met from behind is the last
            for (int c = clippings - 1; c >= 0; c--) {
                if (clipThing[c] == thing && clipDay[c] <= day) {
                    return c;
                }
            }
            return NONE;
        }

        private int sizeOn(int thing, int day) {
            int clipping = clippingOn(thing, day);
            int since = clipping == NONE ? 0 : clipDay[clipping];
            int size = clipping == NONE ? firstSizes[thing] : clipSize[clipping];
            return size + (day - since) / DAYS_TO_GROW * grows[thing];
        }

        private int dueOn(int thing, int day) {
            return trueSizes[thing] / ratioOn(day);
        }

        private int faultOn(int thing, int day) {
            int due = dueOn(thing, day);
            int allowed = due * slackOn(day) / 100;
            int above = sizeOn(thing, day) - due;
            if (above > allowed && sorts[thing] != WATER) {
                return TOO_GREAT;
            }
            if (-above > allowed && sorts[thing] != TREE) {
                return TOO_SMALL;
            }
            return FAIR;
        }
    }

    /** Section 2: walls that fade by their sides, and the hands that paint them. */
    private static final class Paint {
        private static final int MAX_WALLS = 24, SIDES = 4, WEEKS = 200;
        private static final int FRESH = 100, FIRST_FADE = 5, MAX_FADE = 40;
        private static final int FIRST_HANDS = 20, MAX_HANDS = 500;

        private final int[] fades = new int[SIDES];
        private final boolean[] frosts = new boolean[WEEKS];
        private int hands = FIRST_HANDS;
        private int week;

        private final int[] houses = new int[MAX_WALLS];
        private final int[] sides = new int[MAX_WALLS];
        private final int[] hoursToPaint = new int[MAX_WALLS];
        private final int[] looks = new int[MAX_WALLS];
        private final int[] timesPainted = new int[MAX_WALLS];
        private int walls;

        // weeks that only go in thought write here, so that foretelling changes nothing that is told
        private final int[] thoughtLooks = new int[MAX_WALLS];
        private final int[] thoughtTimes = new int[MAX_WALLS];
        private int leastLook;
        private int leastWeek;
        private int leastWall;
        private int hoursLacking;

        Paint() {
            for (int side = 0; side < SIDES; side++) {
                fades[side] = FIRST_FADE;
            }
        }

        int setFade(int side, int v) {
            if (!isWithin(side, 0, SIDES - 1) || !isWithin(v, 0, MAX_FADE)) {
                return OUTSIDE;
            }
            int was = fades[side];
            fades[side] = v;
            return was;
        }

        int addWall(int house, int side, int hours) {
            if (!isWithin(house, 0, 99) || !isWithin(side, 0, SIDES - 1) || !isWithin(hours, 1, 60)) {
                return OUTSIDE;
            }
            if (walls >= MAX_WALLS) {
                return FULL;
            }
            houses[walls] = house;
            sides[walls] = side;
            hoursToPaint[walls] = hours;
            looks[walls] = FRESH;
            walls++;
            return walls - 1;
        }

        int aboutWall(int wall, int what) {
            if (!isWithin(wall, 0, walls - 1)) {
                return UNKNOWN;
            }
            switch (what) {
                case 0: return houses[wall];
                case 1: return sides[wall];
                case 2: return hoursToPaint[wall];
                case 3: return looks[wall];
                case 4: return timesPainted[wall];
                default: return OUTSIDE;
            }
        }

        int setHands(int hours) {
            if (!isWithin(hours, 0, MAX_HANDS)) {
                return OUTSIDE;
            }
            int were = hands;
            hands = hours;
            return were;
        }

        int setFrost(int frostWeek, boolean is) {
            if (!isWithin(frostWeek, 0, WEEKS - 1)) {
                return OUTSIDE;
            }
            if (frostWeek < week) {
                return NO;
            }
            int was = oneIf(frosts[frostWeek]);
            frosts[frostWeek] = is;
            return was;
        }

        int goWeek() {
            if (week >= WEEKS) {
                return STATE;
            }
            int painted = passWeek(week, hands, looks, timesPainted);
            week++;
            return painted;
        }

        int leastForetold(int n, int what) {
            if (!isWithin(n, 1, 52) || !isWithin(what, 0, 2)) {
                return OUTSIDE;
            }
            if (week + n > WEEKS) {
                return STATE;
            }
            if (walls == 0) {
                return NONE;
            }
            foresee(n, hands, 0);
            switch (what) {
                case 0: return leastLook;
                case 1: return leastWeek;
                default: return leastWall;
            }
        }

        int fewestHands(int n, int look) {
            if (!isWithin(n, 1, 52) || !isWithin(look, 0, FRESH)) {
                return OUTSIDE;
            }
            if (week + n > WEEKS) {
                return STATE;
            }
            if (walls == 0) {
                return NONE;
            }
            int tried = 0;
            for (int hours = 0; hours <= MAX_HANDS; hours++) {
                if (hours == tried) {
                    foresee(n, hours, look);
                    if (leastLook >= look) {
                        return hours;
                    }
                    // with fewer hours more than were lacking, the very same walls are painted
                    tried = hours + hoursLacking;
                }
            }
            return NONE;
        }

        /** Lets n weeks go in thought, but for those behind one that ends below a look. */
        private void foresee(int n, int hours, int look) {
            System.arraycopy(looks, 0, thoughtLooks, 0, walls);
            leastLook = FRESH + 1;
            hoursLacking = MAX_HANDS + 1;
            for (int w = week; w < week + n && leastLook >= look; w++) {
                passWeek(w, hours, thoughtLooks, thoughtTimes);
                keepLeast(w);
            }
        }

        private void keepLeast(int ofWeek) {
            for (int wall = 0; wall < walls; wall++) {
                if (thoughtLooks[wall] < leastLook) {
                    leastLook = thoughtLooks[wall];
                    leastWeek = ofWeek;
                    leastWall = wall;
                }
            }
        }

        /** One week goes over rows of looks and times painted: how many walls were painted. */
        private int passWeek(int passing, int hours, int[] rowOfLooks, int[] rowOfTimes) {
            int painted = frosts[passing] ? 0 : paintWalls(hours, rowOfLooks, rowOfTimes);
            for (int wall = 0; wall < walls; wall++) {
                int faded = rowOfLooks[wall] - fades[sides[wall]];
                rowOfLooks[wall] = faded > 0 ? faded : 0;
            }
            return painted;
        }

        private int paintWalls(int hours, int[] rowOfLooks, int[] rowOfTimes) {
            int left = hours;
            for (int painted = 0; painted < walls; painted++) {
                int wall = mostFaded(rowOfLooks);
                if (wall == NONE) {
                    return painted;
                }
                if (hoursToPaint[wall] > left) {
                    hoursLacking = Math.min(hoursLacking, hoursToPaint[wall] - left);
                    return painted;
                }
                left -= hoursToPaint[wall];
                rowOfLooks[wall] = FRESH;
                rowOfTimes[wall]++;
            }
            return walls;
        }

        /** The wall with the least look, of several the least number; NONE: all are fresh. */
        private int mostFaded(int[] rowOfLooks) {
            int least = FRESH;
            int most = NONE;
            for (int wall = 0; wall < walls; wall++) {
                if (rowOfLooks[wall] < least) {
                    least = rowOfLooks[wall];
                    most = wall;
                }
            }
            return most;
        }
    }

    /** Section 3: trains that go round rings of blocks. */
    private static final class Rails {
        private static final int MAX_RINGS = 3, MAX_BLOCKS = 12, MAX_TRAINS = 4;
        private static final int LAST_BLOCK = 29, LEAST_BLOCKS = 2;

        private final int[][] ringBlocks = new int[MAX_RINGS][MAX_BLOCKS];
        private final int[] ringLengths = new int[MAX_RINGS];
        private int rings;

        private final int[] trainRings = new int[MAX_TRAINS];
        private final int[] places = new int[MAX_TRAINS];
        private final int[] minutesNeeded = new int[MAX_TRAINS];
        private final int[] minutesInBlock = new int[MAX_TRAINS];
        private final int[] minutesWaited = new int[MAX_TRAINS];
        private final int[] blocksGone = new int[MAX_TRAINS];
        private final boolean[] stuck = new boolean[MAX_TRAINS];
        private int trains;
        private int minutesGone;

        int addRing() {
            if (rings >= MAX_RINGS) {
                return FULL;
            }
            rings++;
            return rings - 1;
        }

        int addBlock(int ring, int block) {
            if (!isRing(ring)) {
                return UNKNOWN;
            }
            if (!isWithin(block, 0, LAST_BLOCK)) {
                return OUTSIDE;
            }
            if (hasTrain(ring)) {
                return STATE;
            }
            int length = ringLengths[ring];
            if (length >= MAX_BLOCKS) {
                return FULL;
            }
            if (hasBlock(ring, block)) {
                return NO;
            }
            ringBlocks[ring][length] = block;
            ringLengths[ring] = length + 1;
            return length + 1;
        }

        int addTrain(int ring, int place, int minutes) {
            if (!isRing(ring)) {
                return UNKNOWN;
            }
            int length = ringLengths[ring];
            // a ring that is too short to bear a train tells nothing about the place
            int lastPlace = length < LEAST_BLOCKS ? MAX_BLOCKS - 1 : length - 1;
            if (!isWithin(place, 0, lastPlace) || !isWithin(minutes, 1, 9)) {
                return OUTSIDE;
            }
            if (length < LEAST_BLOCKS) {
                return STATE;
            }
            if (trains >= MAX_TRAINS) {
                return FULL;
            }
            if (trainIn(ringBlocks[ring][place]) != NONE) {
                return NO;
            }
            trainRings[trains] = ring;
            places[trains] = place;
            minutesNeeded[trains] = minutes;
            trains++;
            return trains - 1;
        }

        int setStuck(int train, boolean is) {
            if (!isTrain(train)) {
                return UNKNOWN;
            }
            int was = oneIf(stuck[train]);
            stuck[train] = is;
            return was;
        }

        int goMinutes(int n) {
            if (!isWithin(n, 1, 500)) {
                return OUTSIDE;
            }
            int wentOn = 0;
            for (int minute = 0; minute < n; minute++) {
                for (int train = 0; train < trains; train++) {
                    wentOn += oneIf(!stuck[train] && goesOn(train));
                }
            }
            minutesGone += n;
            return wentOn;
        }

        int aboutTrain(int train, int what) {
            if (!isTrain(train)) {
                return UNKNOWN;
            }
            switch (what) {
                case 0: return trainRings[train];
                case 1: return places[train];
                case 2: return blockOf(train);
                case 3: return minutesInBlock[train];
                case 4: return oneIf(stuck[train]);
                case 5: return minutesWaited[train];
                case 6: return blocksGone[train];
                case 7: return trainAhead(train);
                default: return OUTSIDE;
            }
        }

        int standing() {
            int standing = (1 << trains) - 1;
            // each round but the last strikes out a train, so as many rounds as trains do
            for (int round = 0; round < trains; round++) {
                for (int train = 0; train < trains; train++) {
                    if (mayGoOn(train, standing)) {
                        standing &= ~(1 << train);
                    }
                }
            }
            return standing;
        }

        private boolean isRing(int ring) {
            return isWithin(ring, 0, rings - 1);
        }

        private boolean isTrain(int train) {
            return isWithin(train, 0, trains - 1);
        }

        private boolean hasTrain(int ring) {
            for (int train = 0; train < trains; train++) {
                if (trainRings[train] == ring) {
                    return true;
                }
            }
            return false;
        }

        private boolean hasBlock(int ring, int block) {
            for (int place = 0; place < ringLengths[ring]; place++) {
                if (ringBlocks[ring][place] == block) {
                    return true;
                }
            }
            return false;
        }

        private int blockOf(int train) {
            return ringBlocks[trainRings[train]][places[train]];
        }

        private int nextPlace(int train) {
            int next = places[train] + 1;
            return next < ringLengths[trainRings[train]] ? next : 0;
        }

        /** The train that is in a block; NONE. */
        private int trainIn(int block) {
            for (int train = 0; train < trains; train++) {
                if (blockOf(train) == block) {
                    return train;
                }
            }
            return NONE;
        }

        /** The train that is in a train's next block; NONE. */
        private int trainAhead(int train) {
            return trainIn(ringBlocks[trainRings[train]][nextPlace(train)]);
        }

        /** A minute goes for a train that is not stuck: whether it goes on. */
        private boolean goesOn(int train) {
            minutesInBlock[train]++;
            if (minutesInBlock[train] < minutesNeeded[train]) {
                return false;
            }
            if (trainAhead(train) != NONE) {
                minutesWaited[train]++;
                return false;
            }
            places[train] = nextPlace(train);
            minutesInBlock[train] = 0;
            blocksGone[train]++;
            return true;
        }

        /** Whether a train is neither stuck nor behind one of the trains told as standing. */
        private boolean mayGoOn(int train, int standing) {
            if (stuck[train]) {
                return false;
            }
            int ahead = trainAhead(train);
            return ahead == NONE || (standing >> ahead & 1) == 0;
        }
    }

    /** Section 4: figures, and the notes that tell where they were. */
    private static final class Book {
        private static final int MAX_FIGURES = 12, MAX_NOTES = 60;
        private static final int GONE = -1, LAST_PLACE = 99;
        // -1 is an answer of where, so its refusals stand further down
        private static final int WHERE_UNKNOWN = -101, WHERE_OUTSIDE = -102;

        private int figures;
        private final int[] noteFigure = new int[MAX_NOTES];
        private final int[] noteDay = new int[MAX_NOTES];
        private final int[] noteToldOn = new int[MAX_NOTES];
        private final int[] notePlace = new int[MAX_NOTES];
        private int notes;

        int addFigure() {
            if (figures >= MAX_FIGURES) {
                return FULL;
            }
            figures++;
            return figures - 1;
        }

        int addNote(int figure, int day, int toldOn, int place) {
            if (!isFigure(figure)) {
                return UNKNOWN;
            }
            if (!isDay(day) || !isDay(toldOn) || !isWithin(place, GONE, LAST_PLACE)) {
                return OUTSIDE;
            }
            if (notes >= MAX_NOTES) {
                return FULL;
            }
            if (day > toldOn || (notes > 0 && toldOn < noteToldOn[notes - 1])) {
                return NO;
            }
            noteFigure[notes] = figure;
            noteDay[notes] = day;
            noteToldOn[notes] = toldOn;
            notePlace[notes] = place;
            notes++;
            return notes;
        }

        int whereIs(int figure, int day, int asOf) {
            if (!isFigure(figure)) {
                return WHERE_UNKNOWN;
            }
            if (!isDay(day) || !isDay(asOf)) {
                return WHERE_OUTSIDE;
            }
            return placeOn(figure, day, asOf);
        }

        int figuresAt(int place, int day, int asOf) {
            if (!isWithin(place, GONE, LAST_PLACE) || !isDay(day) || !isDay(asOf)) {
                return OUTSIDE;
            }
            int bits = 0;
            for (int figure = 0; figure < figures; figure++) {
                if (placeOn(figure, day, asOf) == place) {
                    bits |= 1 << figure;
                }
            }
            return bits;
        }

        int turnsOf(int figure, int day) {
            if (!isFigure(figure)) {
                return UNKNOWN;
            }
            if (!isDay(day)) {
                return OUTSIDE;
            }
            int turns = 0;
            int best = NONE;
            for (int note = 0; note < notes; note++) {
                if (tellsOf(note, figure, day) && prevails(note, best)) {
                    if (best == NONE || notePlace[note] != notePlace[best]) {
                        turns++;
                    }
                    best = note;
                }
            }
            return turns;
        }

        private boolean isFigure(int figure) {
            return isWithin(figure, 0, figures - 1);
        }

        private int placeOn(int figure, int day, int asOf) {
            int best = NONE;
            for (int note = 0; note < notes; note++) {
                if (noteToldOn[note] <= asOf && tellsOf(note, figure, day) && prevails(note, best)) {
                    best = note;
                }
            }
            return best == NONE ? NONE : notePlace[best];
        }

        private boolean tellsOf(int note, int figure, int day) {
            return noteFigure[note] == figure && noteDay[note] <= day;
        }

        /** Whether a note outdoes the best of those told ahead of it (NONE: there is none). */
        private boolean prevails(int note, int best) {
            return best == NONE || noteDay[note] >= noteDay[best];
        }
    }
}
