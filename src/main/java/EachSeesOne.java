/**
 * A barge on a water of cells, rowed by four of whom each sees one side alone and pulls by a manner.
 *
 * Words in capitals are the document's. Sets of ROWERS are bits: bit r stands for ROWER r.
 */
public final class EachSeesOne {
    public static final int BAD = -1, NO = -2, FULL = -3, NONE = -4;

    private static final int ROWERS = 4, SIDES = 4, ALL_FOUR = 15;
    private static final int OPEN = 0, ROCK = 1, HOME_CELL = 2;
    private static final int GOING = 0, HOME = 1, STRUCK = 2;
    private static final int RUN_STROKES = 99, HUM_STROKES = 40, KNOWN_STROKES = 20;
    private static final int MANNERS = 64, MINDLESS = 4, FOGS = 10000, FOGS_AT_ONCE = 10;
    private static final int TEXT_ROOM = 400, WAKE_ROOM = 20, KEPT_ROOM = 2;

    private final Text text = new Text();
    private final Plan plan = new Plan();
    private final Reader reader = new Reader();
    private final Water water = new Water();
    private final Crew crew = new Crew();
    private final Boat theBarge = new Boat();
    private final Trial trial = new Trial(water, crew);
    private final Inquiry inquiry = new Inquiry(water, crew);
    private final Row wakeCells = new Row(WAKE_ROOM);
    private final Kept firstKept = new Kept();
    private final Kept secondKept = new Kept();
    private int wakeLength;
    private int kept;

    public EachSeesOne() {
        plan.clear();
        plan.addHome(5, 5);
        layPlan();
    }

    // ---- waters

    public int write(int n, long v) {
        if (n < 1 || n > 8) {
            return BAD;
        }
        if (text.length() + n > TEXT_ROOM) {
            return FULL;
        }
        for (int i = n - 1; i >= 0; i--) {
            text.append((int) (v >>> (8 * i)) & 255);
        }
        return text.length();
    }

    public int wipe() {
        int length = text.length();
        text.clear();
        return length;
    }

    public int fault() {
        int place = reader.firstFault(text, plan);
        return place < 0 ? NONE : place;
    }

    public int lay() {
        if (reader.firstFault(text, plan) >= 0 || !plan.canBeLaid()) {
            return NO;
        }
        layPlan();
        return water.starts();
    }

    public int cell(int c) {
        return water.isCell(c) ? water.kindOf(c) : BAD;
    }

    public int sees(int c, int bow, int r) {
        if (!water.isCell(c) || !isSide(bow) || !isRower(r)) {
            return BAD;
        }
        return bit(water.sight(c, bow), r);
    }

    public int manner(int r, int t) {
        if (!isRower(r) || t < 0 || t >= MANNERS) {
            return BAD;
        }
        int before = crew.mannerOf(r);
        crew.teach(r, t);
        return before;
    }

    // ---- the barge

    public int stroke() {
        if (theBarge.end != GOING) {
            return NO;
        }
        theBarge.pullOnce(water, crew, 0, 0);
        return theBarge.end;
    }

    public int put(int c, int bow) {
        if (!canBegin(c, bow)) {
            return BAD;
        }
        theBarge.begin(water, c, bow);
        return theBarge.end;
    }

    public int barge(int what) {
        switch (what) {
            case 0: return theBarge.cell;
            case 1: return theBarge.bow;
            case 2: return theBarge.mind;
            case 3: return theBarge.strokes;
            case 4: return theBarge.end;
            default: return BAD;
        }
    }

    // ---- runs

    public int run(int c, int bow, int what) {
        if (!canBegin(c, bow) || what < 0 || what > 3) {
            return BAD;
        }
        Boat boat = trial.goFrom(c, bow, RUN_STROKES);
        switch (what) {
            case 0: return boat.end;
            case 1: return boat.strokes;
            case 2: return boat.cell;
            default: return boat.bow;
        }
    }

    public int seen(int c, int bow, int r, int t) {
        if (!canBegin(c, bow) || !isRower(r) || t < 1 || t > RUN_STROKES) {
            return BAD;
        }
        Boat boat = trial.goFrom(c, bow, t - 1);
        return boat.end != GOING ? NONE : bit(water.sight(boat.cell, boat.bow), r);
    }

    public int homes() {
        return inquiry.homesNow();
    }

    public int best(int r) {
        if (r != -1 && !isRower(r)) {
            return BAD;
        }
        inquiry.askBest();
        return r == -1 ? inquiry.bestHomes() : inquiry.bestManner(r);
    }

    public int mind(int r, int what) {
        if (!isRower(r) || what < 0 || what > 1) {
            return BAD;
        }
        inquiry.askMind(r);
        return what == 0 ? inquiry.foundHomes() : inquiry.foundChoice();
    }

    public int stranger(int r, int what) {
        if (!isRower(r) || what < 0 || what > 1) {
            return BAD;
        }
        inquiry.askStranger(r);
        return what == 0 ? inquiry.foundHomes() : inquiry.foundChoice();
    }

    public int seats(int r) {
        if (r != -1 && !isRower(r)) {
            return BAD;
        }
        inquiry.askSeats();
        return r == -1 ? inquiry.foundHomes() : benchOf(inquiry.foundChoice(), r);
    }

    public int hum(int what) {
        if (what < 0 || what > 2) {
            return BAD;
        }
        int fewest = RUN_STROKES + 1;
        int rower = 0;
        int at = 0;
        for (int r = 0; r < ROWERS; r++) {
            for (int t = 1; t <= HUM_STROKES; t++) {
                int strokes = trial.strokesHomeByHum(theBarge.cell, theBarge.bow, r, t);
                if (strokes < fewest) {
                    fewest = strokes;
                    rower = r;
                    at = t;
                }
            }
        }
        if (fewest > RUN_STROKES) {
            return NONE;
        }
        return what == 0 ? fewest : what == 1 ? rower : at;
    }

    // ---- what is known

    public int knows(int c, int bow, int r, int t) {
        if (!canBegin(c, bow) || !isRower(r) || t < 0 || t > KNOWN_STROKES) {
            return BAD;
        }
        return trial.startsThatLookLike(c, bow, 1 << r, t);
    }

    public int allKnow(int c, int bow, int t) {
        if (!canBegin(c, bow) || t < 0 || t > KNOWN_STROKES) {
            return BAD;
        }
        return trial.startsThatLookLike(c, bow, ALL_FOUR, t);
    }

    public int wake(int c) {
        if (!water.isCell(c)) {
            return BAD;
        }
        if (wakeLength >= WAKE_ROOM) {
            return FULL;
        }
        wakeCells.set(wakeLength, c);
        wakeLength++;
        return wakeLength;
    }

    public int noWake() {
        int length = wakeLength;
        wakeLength = 0;
        return length;
    }

    public int wrong() {
        if (trial.leavesWake(theBarge, wakeCells, wakeLength, 0, 0)) {
            return NONE;
        }
        int rowers = 0;
        for (int r = 0; r < ROWERS; r++) {
            for (int t = 1; t <= wakeLength; t++) {
                if (trial.leavesWake(theBarge, wakeCells, wakeLength, 1 << r, t)) {
                    rowers |= 1 << r;
                }
            }
        }
        return rowers;
    }

    public int fog(int z, int c, int bow, int what) {
        if (z < 0 || z >= FOGS || !canBegin(c, bow) || what < 0 || what > 1) {
            return BAD;
        }
        if (what == 0) {
            return trial.endInFog(z, c, bow);
        }
        int home = 0;
        for (int i = 0; i < FOGS_AT_ONCE; i++) {
            if (trial.endInFog((z + i) % FOGS, c, bow) == HOME) {
                home++;
            }
        }
        return home;
    }

    public int keep() {
        if (kept >= KEPT_ROOM) {
            return FULL;
        }
        Kept free = kept == 0 ? firstKept : secondKept;
        free.take(theBarge, crew);
        kept++;
        return kept;
    }

    public int back() {
        if (kept == 0) {
            return NO;
        }
        kept--;
        Kept last = kept == 0 ? firstKept : secondKept;
        last.give(theBarge, crew);
        return kept;
    }

    public int count(int what) {
        switch (what) {
            case 0: return water.cells();
            case 1: return water.starts();
            case 2: return wakeLength;
            case 3: return kept;
            case 4: return text.length();
            default: return BAD;
        }
    }

    private void layPlan() {
        water.build(plan);
        for (int r = 0; r < ROWERS; r++) {
            crew.teach(r, plan.mannerTold(r));
        }
        theBarge.begin(water, water.cellAt(plan.x, plan.y), plan.bow);
        wakeLength = 0;
        kept = 0;
        inquiry.forgetBest();
    }

    private boolean canBegin(int c, int bow) {
        return water.isCell(c) && water.kindOf(c) != ROCK && isSide(bow);
    }

    private static boolean isSide(int s) {
        return s >= 0 && s < SIDES;
    }

    private static boolean isRower(int r) {
        return r >= 0 && r < ROWERS;
    }

    private static int bit(int bits, int r) {
        return (bits >> r) & 1;
    }

    /** Of four numbers 0 to 3 in one code, that of ROWER r; a lesser code is the one that comes first. */
    private static int benchOf(int code, int r) {
        return (code >> (2 * (ROWERS - 1 - r))) & 3;
    }

    /** A row of numbers that answers 0 beyond its ends, so that no index can fail. */
    private static final class Row {
        private final int[] numbers;

        Row(int length) {
            numbers = new int[length > 0 ? length : 0];
        }

        int at(int i) {
            return i >= 0 && i < numbers.length ? numbers[i] : 0;
        }

        void set(int i, int number) {
            if (i >= 0 && i < numbers.length) {
                numbers[i] = number;
            }
        }

        void clear() {
            for (int i = 0; i < numbers.length; i++) {
                numbers[i] = 0;
            }
        }
    }

    private static final class Text {
        private final Row bytes = new Row(TEXT_ROOM);
        private int length;

        int length() {
            return length;
        }

        void clear() {
            length = 0;
        }

        void append(int letter) {
            if (length < TEXT_ROOM) {
                bytes.set(length, letter);
                length++;
            }
        }

        /** 0 behind the end: a byte that stands in no ITEM. */
        int letterAt(int place) {
            return place < length ? bytes.at(place) : 0;
        }
    }

    /** What a TEXT tells. Its rows are 8 wide, for WATER may be told behind ROCKS and HOMES. */
    private static final class Plan {
        private static final int WIDEST = 8;

        private final Row rocks = new Row(WIDEST * WIDEST);
        private final Row homeCells = new Row(WIDEST * WIDEST);
        private final Row manners = new Row(ROWERS);
        private int width, height, side, every, far, x, y, bow;

        void clear() {
            rocks.clear();
            homeCells.clear();
            manners.clear();
            width = 6;
            height = 6;
            side = 0;
            every = 0;
            far = 1;
            x = 0;
            y = 0;
            bow = 1;
        }

        void addHome(int atX, int atY) {
            homeCells.set(atX + WIDEST * atY, 1);
        }

        void tell(int letter, int a, int b, int c) {
            switch (letter) {
                case 'w': width = a; height = b; break;
                case 'x': rocks.set(a + WIDEST * b, 1); break;
                case 'h': addHome(a, b); break;
                case 's': side = a; every = b; break;
                case 'v': far = a; break;
                case 'm': manners.set(a, b); break;
                case 'b': x = a; y = b; bow = c; break;
                default: break;
            }
        }

        int mannerTold(int r) {
            return manners.at(r);
        }

        /** A HOME on a ROCK is a ROCK: the barge strikes there before it can be HOME. */
        int kindTold(int atX, int atY) {
            int place = atX + WIDEST * atY;
            if (rocks.at(place) == 1) {
                return ROCK;
            }
            return homeCells.at(place) == 1 ? HOME_CELL : OPEN;
        }

        boolean canBeLaid() {
            return x < width && y < height && kindTold(x, y) != ROCK && hasHome();
        }

        private boolean hasHome() {
            for (int atY = 0; atY < height; atY++) {
                for (int atX = 0; atX < width; atX++) {
                    if (kindTold(atX, atY) == HOME_CELL) {
                        return true;
                    }
                }
            }
            return false;
        }
    }

    private static final class Reader {
        private static final String LETTERS = "wxhsvmb";
        private static final int PLACES = 3;
        private static final int[] NUMBERS = {2, 2, 2, 2, 1, 2, 3};
        // three places for each of LETTERS, of which the first NUMBERS count
        private static final int[] LEAST = {2, 2, 0, 0, 0, 0, 0, 0, 0, 0, 0, 0, 1, 0, 0, 0, 0, 0, 0, 0, 0};
        private static final int[] MOST = {8, 8, 0, 7, 7, 0, 7, 7, 0, 3, 9, 0, 7, 0, 0, 3, 63, 0, 7, 7, 3};

        private final Row told = new Row(PLACES);

        /** Where the first ITEM that is not so begins, or -1; the plan holds what is told ahead of it. */
        int firstFault(Text text, Plan plan) {
            plan.clear();
            int from = 0;
            for (int items = 0; items < TEXT_ROOM && from < text.length(); items++) {
                int behind = readItem(text, from, plan);
                if (behind < 0) {
                    return from;
                }
                from = behind;
            }
            return -1;
        }

        private int readItem(Text text, int from, Plan plan) {
            int letter = text.letterAt(from);
            int kind = LETTERS.indexOf((char) letter);
            if (kind < 0) {
                return -1;
            }
            int numbers = numberAt(NUMBERS, kind);
            int place = from + 1;
            for (int i = 0; i < numbers; i++) {
                int figures = figuresAt(text, place);
                int number = numberOf(text, place, figures);
                place += figures;
                boolean parted = text.letterAt(place) == (i < numbers - 1 ? ',' : ';');
                if (figures == 0 || !parted || !isTold(kind, i, number)) {
                    return -1;
                }
                told.set(i, number);
                place++;
            }
            plan.tell(letter, told.at(0), told.at(1), told.at(2));
            return place;
        }

        private static boolean isTold(int kind, int i, int number) {
            int place = PLACES * kind + i;
            return number >= numberAt(LEAST, place) && number <= numberAt(MOST, place);
        }

        /** How many figures stand there, two at most: a third is then no sign that parts numbers. */
        private static int figuresAt(Text text, int place) {
            if (!isFigure(text.letterAt(place))) {
                return 0;
            }
            return isFigure(text.letterAt(place + 1)) ? 2 : 1;
        }

        private static int numberOf(Text text, int place, int figures) {
            int number = 0;
            for (int i = 0; i < figures; i++) {
                number = 10 * number + text.letterAt(place + i) - '0';
            }
            return number;
        }

        private static boolean isFigure(int letter) {
            return letter >= '0' && letter <= '9';
        }

        private static int numberAt(int[] numbers, int i) {
            return i >= 0 && i < numbers.length ? numbers[i] : 0;
        }
    }

    private static final class Water {
        private static final int MOST_CELLS = 64, BLOCKED = -1;

        private final Row kinds = new Row(MOST_CELLS);
        // by CELL and SIDE (4 c + s), so that a STROKE needs no division
        private final Row beside = new Row(SIDES * MOST_CELLS);
        private final Row sights = new Row(SIDES * MOST_CELLS);
        private int width, height, side, every, far, starts;

        void build(Plan plan) {
            width = plan.width;
            height = plan.height;
            side = plan.side;
            every = plan.every;
            far = plan.far;
            starts = 0;
            for (int y = 0; y < height; y++) {
                for (int x = 0; x < width; x++) {
                    int kind = plan.kindTold(x, y);
                    kinds.set(cellAt(x, y), kind);
                    starts += kind == OPEN ? SIDES : 0;
                }
            }
            for (int y = 0; y < height; y++) {
                for (int x = 0; x < width; x++) {
                    lookAround(x, y);
                }
            }
        }

        private void lookAround(int x, int y) {
            int c = cellAt(x, y);
            int blocked = 0;
            for (int s = 0; s < SIDES; s++) {
                boolean rock = isRockAt(x + stepX(s), y + stepY(s));
                beside.set(SIDES * c + s, rock ? BLOCKED : cellAt(x + stepX(s), y + stepY(s)));
                blocked |= rockWithin(x, y, s) << s;
            }
            for (int bow = 0; bow < SIDES; bow++) {
                // turned by the bow, the bits of SIDES become bits of ROWERS
                sights.set(SIDES * c + bow, ((blocked >> bow) | (blocked << (SIDES - bow))) & ALL_FOUR);
            }
        }

        private int rockWithin(int x, int y, int s) {
            for (int i = 1; i <= far; i++) {
                if (isRockAt(x + i * stepX(s), y + i * stepY(s))) {
                    return 1;
                }
            }
            return 0;
        }

        private boolean isRockAt(int x, int y) {
            boolean within = x >= 0 && x < width && y >= 0 && y < height;
            return !within || kinds.at(cellAt(x, y)) == ROCK;
        }

        private static int stepX(int s) {
            return s == 1 ? 1 : s == 3 ? -1 : 0;
        }

        private static int stepY(int s) {
            return s == 2 ? 1 : s == 0 ? -1 : 0;
        }

        int cellAt(int x, int y) {
            return x + width * y;
        }

        int cells() {
            return width * height;
        }

        int starts() {
            return starts;
        }

        boolean isCell(int c) {
            return c >= 0 && c < cells();
        }

        int kindOf(int c) {
            return kinds.at(c);
        }

        /** What all four SEE. */
        int sight(int c, int bow) {
            return sights.at(SIDES * c + bow);
        }

        int rowedTo(int c, int bow, int ahead) {
            if (ahead == 0) {
                return c;
            }
            return beside.at(SIDES * c + (ahead > 0 ? bow : (bow + 2) & 3));
        }

        int takenTo(int c, int t) {
            return every > 0 && t % every == 0 ? beside.at(SIDES * c + side) : c;
        }

        /** After so many STROKES the STREAM is again where it was. */
        int rhythm() {
            return every > 0 ? every : 1;
        }
    }

    /** MANNERS of four, turned into sets of ROWERS, so that all four pull in one go. */
    private static final class Crew {
        private final Row manners = new Row(ROWERS);
        // who pulls, by what he bears in mind (first figure) and SEES (second)
        private int pull00, pull01, pull10, pull11;
        private int bearSights, bearPulls;

        int mannerOf(int r) {
            return manners.at(r);
        }

        void teach(int r, int t) {
            manners.set(r, t);
            boolean mindless = t < MINDLESS;
            int rule = mindless ? t | (t << 2) : (t - MINDLESS) & 15;
            boolean bySights = t - MINDLESS >= 32;
            pull00 = with(pull00, r, bit(rule, 0) == 1);
            pull01 = with(pull01, r, bit(rule, 1) == 1);
            pull10 = with(pull10, r, bit(rule, 2) == 1);
            pull11 = with(pull11, r, bit(rule, 3) == 1);
            bearSights = with(bearSights, r, bySights);
            bearPulls = with(bearPulls, r, !mindless && !bySights);
        }

        void learnFrom(Crew other) {
            for (int r = 0; r < ROWERS; r++) {
                teach(r, other.mannerOf(r));
            }
        }

        int pulls(int sight, int mind) {
            return (pull00 & ~mind & ~sight) | (pull01 & ~mind & sight)
                    | (pull10 & mind & ~sight) | (pull11 & mind & sight);
        }

        int bears(int sight, int pull) {
            return (bearSights & sight) | (bearPulls & pull);
        }

        private static int with(int rowers, int r, boolean in) {
            return in ? rowers | (1 << r) : rowers & ~(1 << r);
        }
    }

    private static final class Boat {
        private int cell, bow, mind, strokes, end;

        void begin(Water water, int c, int toSide) {
            cell = c;
            bow = toSide;
            mind = 0;
            strokes = 0;
            end = water.kindOf(c) == HOME_CELL ? HOME : GOING;
        }

        void copyFrom(Boat other) {
            cell = other.cell;
            bow = other.bow;
            mind = other.mind;
            strokes = other.strokes;
            end = other.end;
        }

        /** A STROKE, in which the ROWERS in blur SEE, those in slip do, the other thing. */
        void pullOnce(Water water, Crew crew, int blur, int slip) {
            int sight = water.sight(cell, bow) ^ blur;
            int pull = crew.pulls(sight, mind) ^ slip;
            mind = crew.bears(sight, pull);
            strokes++;
            bow = (bow + bit(pull, 3) - bit(pull, 1)) & 3;
            int rowed = water.rowedTo(cell, bow, bit(pull, 0) - bit(pull, 2));
            if (rowed == Water.BLOCKED) {
                end = STRUCK;
                return;
            }
            cell = rowed;
            int taken = water.takenTo(cell, strokes);
            if (taken == Water.BLOCKED) {
                end = STRUCK;
                return;
            }
            cell = taken;
            if (water.kindOf(cell) == HOME_CELL) {
                end = HOME;
            }
        }
    }

    private static final class Kept {
        private final Boat boat = new Boat();
        private final Crew crew = new Crew();

        void take(Boat otherBoat, Crew otherCrew) {
            boat.copyFrom(otherBoat);
            crew.learnFrom(otherCrew);
        }

        void give(Boat otherBoat, Crew otherCrew) {
            otherBoat.copyFrom(boat);
            otherCrew.learnFrom(crew);
        }
    }

    /** Runs of a boat of its own, by the MANNERS of a crew. */
    private static final class Trial {
        private static final int NOT_DONE = 16;

        private final Water water;
        private final Crew crew;
        private final Boat boat = new Boat();
        private final Row told = new Row(KNOWN_STROKES);

        Trial(Water water, Crew crew) {
            this.water = water;
            this.crew = crew;
        }

        Boat goFrom(int c, int bow, int strokes) {
            boat.begin(water, c, bow);
            for (int t = 1; t <= strokes && boat.end == GOING; t++) {
                boat.pullOnce(water, crew, 0, 0);
            }
            return boat;
        }

        /** More than a RUN can have, if it isn't HOME or stroke t isn't done. */
        int strokesHomeByHum(int c, int bow, int r, int t) {
            boat.begin(water, c, bow);
            for (int i = 1; i <= RUN_STROKES && boat.end == GOING; i++) {
                boat.pullOnce(water, crew, 0, i == t ? 1 << r : 0);
            }
            return boat.end == HOME && boat.strokes >= t ? boat.strokes : RUN_STROKES + 1;
        }

        int endInFog(int z, int c, int bow) {
            boat.begin(water, c, bow);
            for (int t = 1; t <= RUN_STROKES && boat.end == GOING; t++) {
                boat.pullOnce(water, crew, blurIn(z, t), 0);
            }
            return boat.end;
        }

        private static int blurIn(int z, int t) {
            int blur = 0;
            for (int r = 0; r < ROWERS; r++) {
                long x = 7919L * z + 6151L * t + 3571L * r + 1;
                if (x * x % 65521 % 10 == 0) {
                    blur |= 1 << r;
                }
            }
            return blur;
        }

        boolean leavesWake(Boat from, Row wakeCells, int length, int slip, int slipAt) {
            boat.copyFrom(from);
            for (int t = 1; t <= length; t++) {
                if (boat.end != GOING) {
                    return false;
                }
                boat.pullOnce(water, crew, 0, t == slipAt ? slip : 0);
                if (boat.cell != wakeCells.at(t - 1)) {
                    return false;
                }
            }
            return true;
        }

        int startsThatLookLike(int c, int bow, int rowers, int strokes) {
            boat.begin(water, c, bow);
            for (int t = 1; t <= strokes; t++) {
                told.set(t - 1, sightThenStroke());
            }
            int alike = 0;
            for (int from = 0; from < water.cells(); from++) {
                for (int side = 0; water.kindOf(from) == OPEN && side < SIDES; side++) {
                    boat.begin(water, from, side);
                    alike += looksAsTold(rowers, strokes) ? 1 : 0;
                }
            }
            return alike;
        }

        private boolean looksAsTold(int rowers, int strokes) {
            for (int t = 1; t <= strokes; t++) {
                int other = sightThenStroke() ^ told.at(t - 1);
                if ((other & (rowers | NOT_DONE)) != 0) {
                    return false;
                }
            }
            return true;
        }

        private int sightThenStroke() {
            if (boat.end != GOING) {
                return NOT_DONE;
            }
            int sight = water.sight(boat.cell, boat.bow);
            boat.pullOnce(water, crew, 0, 0);
            return sight;
        }
    }

    /** HOMES, each state gone through once: a note tells how many STROKES are left from it. */
    private static final class Tally {
        // noted are only states in which the STREAM begins anew, so that its rhythm needs no room
        private static final int STATES = 16 * SIDES * Water.MOST_CELLS, MOST_STROKES = 9 * STATES;
        // a note bears the number of its tally, so that none need be wiped for the next one
        private static final int NOTE = 128, MOST_TALLIES = 16000000;
        private static final int NEVER = RUN_STROKES + 1;

        private final Row notes = new Row(STATES);
        private final Row path = new Row(STATES);
        private final Boat boat = new Boat();
        private int tallies;

        int homesBy(Water water, Crew crew) {
            if (tallies >= MOST_TALLIES) {
                notes.clear();
                tallies = 0;
            }
            tallies++;
            int homes = 0;
            for (int c = 0; c < water.cells(); c++) {
                for (int bow = 0; water.kindOf(c) == OPEN && bow < SIDES; bow++) {
                    boat.begin(water, c, bow);
                    homes += strokesHome(water, crew) < NEVER ? 1 : 0;
                }
            }
            return homes;
        }

        private int strokesHome(Water water, Crew crew) {
            int rhythm = water.rhythm();
            int noted = 0;
            int left = NEVER;
            for (int i = 0; i < MOST_STROKES && boat.end == GOING; i++) {
                if (rhythm > 0 && i % rhythm == 0) {
                    int state = (boat.mind * SIDES + boat.bow) * Water.MOST_CELLS + boat.cell;
                    int note = notes.at(state) - NOTE * tallies;
                    if (note >= 0) {
                        left = note;
                        break;
                    }
                    // to come back to it on this very path is never to be HOME
                    notes.set(state, NOTE * tallies + NEVER);
                    path.set(noted, state);
                    noted++;
                }
                boat.pullOnce(water, crew, 0, 0);
            }
            if (boat.end == HOME) {
                left = 0;
            }
            if (left == NEVER) {
                return NEVER;
            }
            int whole = boat.strokes + left;
            for (int k = 0; k < noted; k++) {
                notes.set(path.at(k), NOTE * tallies + Math.min(NEVER, whole - k * rhythm));
            }
            return Math.min(NEVER, whole);
        }
    }

    /** What other MANNERS would be worth: each question leaves its answer behind. */
    private static final class Inquiry {
        private static final int CODES = 256;

        private final Water water;
        private final Crew crew;
        private final Crew tried = new Crew();
        private final Tally tally = new Tally();
        private boolean bestIsKnown;
        private int bestHomes, bestCode, foundHomes, foundChoice;

        Inquiry(Water water, Crew crew) {
            this.water = water;
            this.crew = crew;
        }

        int homesNow() {
            return tally.homesBy(water, crew);
        }

        int bestHomes() {
            return bestHomes;
        }

        int bestManner(int r) {
            return benchOf(bestCode, r);
        }

        int foundHomes() {
            return foundHomes;
        }

        int foundChoice() {
            return foundChoice;
        }

        void forgetBest() {
            bestIsKnown = false;
        }

        /** BEST hangs on the WATER alone, so it is gone through once for each. */
        void askBest() {
            if (bestIsKnown) {
                return;
            }
            foundHomes = -1;
            for (int code = 0; code < CODES; code++) {
                for (int r = 0; r < ROWERS; r++) {
                    tried.teach(r, benchOf(code, r));
                }
                takeIfMore(tally.homesBy(water, tried), code);
            }
            bestHomes = foundHomes;
            bestCode = foundChoice;
            bestIsKnown = true;
        }

        void askMind(int r) {
            tried.learnFrom(crew);
            foundHomes = -1;
            for (int t = 0; t < MANNERS; t++) {
                tried.teach(r, t);
                takeIfMore(tally.homesBy(water, tried), t);
            }
        }

        void askStranger(int r) {
            tried.learnFrom(crew);
            foundHomes = SIDES * Water.MOST_CELLS + 1;
            for (int t = 0; t < MINDLESS; t++) {
                tried.teach(r, t);
                int homes = tally.homesBy(water, tried);
                if (homes < foundHomes) {
                    foundHomes = homes;
                    foundChoice = t;
                }
            }
        }

        void askSeats() {
            foundHomes = -1;
            for (int code = 0; code < CODES; code++) {
                int seated = 0;
                for (int r = 0; r < ROWERS; r++) {
                    seated |= 1 << benchOf(code, r);
                    tried.teach(r, crew.mannerOf(benchOf(code, r)));
                }
                if (seated == ALL_FOUR) {
                    takeIfMore(tally.homesBy(water, tried), code);
                }
            }
        }

        private void takeIfMore(int homes, int choice) {
            if (homes > foundHomes) {
                foundHomes = homes;
                foundChoice = choice;
            }
        }
    }
}
