import java.util.Arrays;
import java.util.NoSuchElementException;

/** A road over a grid of heights. What each call promises stands, by number, in the document. */
public final class GentleRoad {
    public static final int NONE = -1;

    private static final int MOST_PLACES = 81;
    private static final int HEADINGS = 8;
    private static final int ALL_STEPS = MOST_PLACES * HEADINGS;
    private static final int ROADS = 4;
    private static final int ROAD_PLACES = 40;
    private static final int MOST_RULE = 99;
    private static final int MOST_GRADE = 99;
    private static final int MOST_HEIGHT = 99;
    private static final int MOST_BORED = 3;
    private static final int MOST_STAGES = 6;
    private static final int ROUND_PLACES = 6;
    private static final int ROAD_ANSWERS = 15;
    private static final int PLACE_ANSWERS = 4;
    private static final int WATER_ANSWERS = 3;
    private static final int PAIR_ANSWERS = 2;
    private static final int WITHOUT_OFFSET = 100;

    /** More than any sum of costs can be, and small enough that two of them can be added. */
    private static final int FAR = 1000000000;

    private static final int KINDS = 6;
    private static final int BY_COST = 0;
    private static final int BY_LONG = 1;
    private static final int BY_CLIMB = 2;
    private static final int BY_STEPS = 3;
    private static final int BY_USED = 4;
    private static final int BY_WASHED = 5;

    private static final int TERMS = 11;
    private static final int GRADE = 0;
    private static final int BEND = 1;
    private static final int FLAT = 2;
    private static final int RISE = 3;
    private static final int TURN = 4;
    private static final int HAIR = 5;
    private static final int BORE = 6;
    private static final int DEPTH = 7;
    private static final int DIG = 8;
    private static final int FILL = 9;
    private static final int SPOIL = 10;
    private static final int[] TERM_LEAST = {1, 0, 0, 0, 0, 0, 0, 0, 0, 0, 0};
    private static final int[] TERM_MOST = {99, 4, 99, 9, 9, 99, 99, 3, 9, 9, 30};
    private static final int[] TERM_FIRST = {20, 1, 2, 2, 1, 20, 50, 1, 1, 1, 5};

    private static final int[] ROW_MOVE = {-1, -1, 0, 1, 1, 1, 0, -1};
    private static final int[] COLUMN_MOVE = {0, 1, 1, 1, 0, -1, -1, -1};

    private final Tape tape;
    private final Land ground;
    private final Text text;
    private final Past past;
    private final Streams streams;
    private final Ways ways;
    private final Planner planner;
    private final Grader grader;
    private final Survey survey;
    private final int[] imageCells;
    private boolean imageKept;
    private int wrongByte;

    public GentleRoad() {
        tape = new Tape();
        ground = new Land();
        text = new Text(tape);
        past = new Past();
        streams = new Streams(ground);
        ways = new Ways(ground, streams);
        planner = new Planner(ground, ways);
        grader = new Grader(ground);
        survey = new Survey(ground, grader, streams);
        imageCells = new int[Land.CELLS];
        imageKept = false;
        wrongByte = NONE;
    }

    public int feed(int a, int b, int c, int d, int e) {
        if (!tape.hasRoom()) {
            return NONE;
        }
        tape.add(a);
        tape.add(b);
        tape.add(c);
        tape.add(d);
        tape.add(e);
        return tape.size();
    }

    public boolean end(int n) {
        return tape.cut(n);
    }

    public int land() throws IllegalArgumentException {
        wrongByte = text.read();
        tape.cut(0);
        if (wrongByte != NONE) {
            throw new IllegalArgumentException("the text is wrong");
        }
        ground.take(text.told(), 0);
        past.forget();
        return ground.places();
    }

    public int fault() {
        return wrongByte;
    }

    public int place(int place, int what) throws IndexOutOfBoundsException, NoSuchElementException {
        needPlace(place);
        needAnswer(what, PLACE_ANSWERS);
        switch (what) {
            case 0:
                return ground.height(place);
            case 1:
                return ground.isWet(place) ? 1 : 0;
            case 2:
                return ground.isFlat(place) ? 1 : 0;
            default:
                return ground.stepBits(place);
        }
    }

    public int term(int what) throws NoSuchElementException {
        needAnswer(what, TERMS);
        return ground.value(what);
    }

    public int tune(int what, int n) throws NoSuchElementException, IllegalArgumentException {
        needAnswer(what, TERMS);
        needNumber(n, TERM_LEAST[what], TERM_MOST[what]);
        int old = ground.value(what);
        remember();
        ground.setValue(what, n);
        return old;
    }

    public int raise(int place, int n) throws IndexOutOfBoundsException, IllegalArgumentException {
        needPlace(place);
        needNumber(n, -MOST_HEIGHT, MOST_HEIGHT);
        int height = ground.height(place) + n;
        needNumber(height, 0, MOST_HEIGHT);
        remember();
        ground.setHeight(place, height);
        return height;
    }

    public boolean flood(int place, boolean is) throws IndexOutOfBoundsException {
        needPlace(place);
        boolean changes = ground.isWet(place) != is;
        remember();
        ground.setWet(place, is);
        return changes;
    }

    public int build(int road, int from, int to)
            throws IndexOutOfBoundsException, IllegalArgumentException, IllegalStateException {
        needRoad(road);
        needPair(from, to);
        needUnlike(from, to);
        int cost = ways.find(from, to, BY_COST);
        if (cost == NONE || ways.pathSize() > ROAD_PLACES) {
            throw new IllegalStateException("there is no such road");
        }
        remember();
        ground.setRoad(road, ways.path(), ways.pathSize());
        return cost;
    }

    public int drop(int road) throws IndexOutOfBoundsException, IllegalStateException {
        needRoad(road);
        needBuilt(road);
        int size = ground.roadSize(road);
        remember();
        ground.clearRoad(road);
        return size;
    }

    public int level(int road, int rule)
            throws IndexOutOfBoundsException, IllegalArgumentException, IllegalStateException {
        needRoad(road);
        needNumber(rule, 0, MOST_RULE);
        needBuilt(road);
        int much = grader.leastEarth(road, rule);
        if (much == NONE) {
            throw new IllegalStateException("there is no grading");
        }
        remember();
        grader.settle(road);
        return much;
    }

    public int undo() throws IllegalStateException {
        if (past.size() == 0) {
            throw new IllegalStateException("no act is remembered");
        }
        past.takeBack(ground);
        return past.size();
    }

    public int best(int from, int to, int kind)
            throws IndexOutOfBoundsException, NoSuchElementException, IllegalArgumentException {
        needPair(from, to);
        needAnswer(kind, KINDS);
        needUnlike(from, to);
        return ways.measure(from, to, kind);
    }

    public int along(int from, int to, int kind, int k)
            throws IndexOutOfBoundsException, NoSuchElementException, IllegalArgumentException {
        needPair(from, to);
        needAnswer(kind, KINDS);
        needUnlike(from, to);
        ways.find(from, to, kind);
        return k >= 0 && k < ways.pathSize() ? ways.path()[k] : NONE;
    }

    public int reach(int place) throws IndexOutOfBoundsException {
        needPlace(place);
        return planner.reached(place);
    }

    public int grade(int from, int to) throws IndexOutOfBoundsException, IllegalArgumentException {
        needPair(from, to);
        needUnlike(from, to);
        return planner.leastGrade(from, to);
    }

    public int gate(int from, int to) throws IndexOutOfBoundsException, IllegalArgumentException {
        needPair(from, to);
        needUnlike(from, to);
        return planner.firstGate(from, to);
    }

    public int bored(int from, int to, int n) throws IndexOutOfBoundsException, IllegalArgumentException {
        needPair(from, to);
        needUnlike(from, to);
        needNumber(n, 0, MOST_BORED);
        return ways.measureBored(from, to, n);
    }

    public int meet(int a, int b, int c, int what)
            throws IndexOutOfBoundsException, NoSuchElementException, IllegalArgumentException {
        needPair(a, b);
        needPlace(c);
        needAnswer(what, PAIR_ANSWERS);
        needUnlike(a, b);
        needUnlike(b, c);
        needUnlike(a, c);
        planner.clearSums();
        planner.addCosts(a);
        planner.addCosts(b);
        planner.addCosts(c);
        int where = planner.leastSumPlace();
        return where == NONE || what == 0 ? where : planner.sumAt(where);
    }

    public int round() throws IllegalArgumentException {
        int size = tape.size();
        tape.cut(0);
        if (!planner.takeRound(tape, size)) {
            throw new IllegalArgumentException("the tape tells no places to go round");
        }
        return planner.leastRound();
    }

    public int road(int road, int what)
            throws IndexOutOfBoundsException, NoSuchElementException, IllegalStateException {
        needRoad(road);
        needAnswer(what, ROAD_ANSWERS);
        needBuilt(road);
        return survey.answer(road, what);
    }

    public int at(int road, int k, boolean offset) throws IndexOutOfBoundsException, IllegalStateException {
        needRoad(road);
        needBuilt(road);
        if (k < 0 || k >= ground.roadSize(road)) {
            return offset ? WITHOUT_OFFSET : NONE;
        }
        return offset ? ground.roadOffset(road, k) : ground.roadPlace(road, k);
    }

    public int earth(int road, int rule)
            throws IndexOutOfBoundsException, IllegalArgumentException, IllegalStateException {
        needRoad(road);
        needNumber(rule, 0, MOST_RULE);
        needBuilt(road);
        return grader.leastEarth(road, rule);
    }

    public int water(int place, int what) throws IndexOutOfBoundsException, NoSuchElementException {
        needPlace(place);
        needAnswer(what, WATER_ANSWERS);
        switch (what) {
            case 0:
                return streams.runOf(place);
            case 1:
                streams.gather();
                return streams.catchOf(place);
            default:
                return streams.spillOf(place);
        }
    }

    public int bridges(int road, int n)
            throws IndexOutOfBoundsException, IllegalArgumentException, IllegalStateException {
        needRoad(road);
        needNumber(n, 1, MOST_PLACES);
        needBuilt(road);
        return survey.bridgesOver(road, n);
    }

    public int joins(int place, int road, int what)
            throws IndexOutOfBoundsException, NoSuchElementException, IllegalStateException {
        needPlace(place);
        needRoad(road);
        needAnswer(what, PAIR_ANSWERS);
        needBuilt(road);
        int k = planner.joiningIndex(place, road);
        if (k == NONE) {
            return NONE;
        }
        int where = ground.roadPlace(road, k);
        return what == 0 ? where : ways.costBetween(where, place);
    }

    public int spare(int from, int to, int what)
            throws IndexOutOfBoundsException, NoSuchElementException, IllegalArgumentException {
        needPair(from, to);
        needAnswer(what, PAIR_ANSWERS);
        needUnlike(from, to);
        int step = planner.dearestStep(from, to);
        return what == 0 ? step : planner.dearestCost();
    }

    public int stages(int road, int n)
            throws IndexOutOfBoundsException, IllegalArgumentException, IllegalStateException {
        needRoad(road);
        needNumber(n, 1, MOST_STAGES);
        needBuilt(road);
        return survey.leastStage(road, n);
    }

    public int common(int road, int other)
            throws IndexOutOfBoundsException, IllegalArgumentException, IllegalStateException {
        needRoad(road);
        needRoad(other);
        needUnlike(road, other);
        needBuilt(road);
        needBuilt(other);
        return survey.shared(road, other);
    }

    public void image() {
        ground.copyTo(imageCells, 0);
        imageKept = true;
    }

    public boolean back() {
        if (!imageKept) {
            return false;
        }
        ground.take(imageCells, 0);
        past.forget();
        return true;
    }

    public int count(int what) {
        switch (what) {
            case 0:
                return ground.wide();
            case 1:
                return ground.deep();
            case 2:
                return ground.wetPlaces();
            case 3:
                return ground.builtBits();
            case 4:
                return past.size();
            case 5:
                return streams.sinks();
            default:
                return NONE;
        }
    }

    private void remember() {
        past.remember(ground);
    }

    private void needPlace(int place) {
        if (place < 0 || place >= ground.places()) {
            throw new IndexOutOfBoundsException("there is no such place");
        }
    }

    private void needPair(int from, int to) {
        needPlace(from);
        needPlace(to);
    }

    private void needRoad(int road) {
        if (road < 0 || road >= ROADS) {
            throw new IndexOutOfBoundsException("there is no such road");
        }
    }

    private void needAnswer(int what, int answers) {
        if (what < 0 || what >= answers) {
            throw new NoSuchElementException("there is nothing of that number");
        }
    }

    private void needNumber(int n, int least, int most) {
        if (n < least || n > most) {
            throw new IllegalArgumentException("the number is out of its bounds");
        }
    }

    private void needUnlike(int one, int other) {
        if (one == other) {
            throw new IllegalArgumentException("both are one");
        }
    }

    private void needBuilt(int road) {
        if (!ground.isBuilt(road)) {
            throw new IllegalStateException("the road is not built");
        }
    }

    private static int longOf(int heading) {
        return (heading & 1) == 0 ? 10 : 14;
    }

    private static int opposite(int heading) {
        return (heading + 4) & 7;
    }

    private static int eighths(int heading, int other) {
        int apart = (heading - other) & 7;
        return apart > 4 ? HEADINGS - apart : apart;
    }

    /** The bytes that were fed, up to 400. */
    private static final class Tape {
        private static final int MOST = 400;
        private static final int FED = 20;
        private final int[] row;
        private int size;

        Tape() {
            row = new int[MOST];
            size = 0;
        }

        boolean hasRoom() {
            return size + FED <= MOST;
        }

        void add(int number) {
            for (int shift = 24; shift >= 0 && size < MOST; shift -= 8) {
                row[size] = (number >> shift) & 255;
                size++;
            }
        }

        boolean cut(int n) {
            if (n < 0 || n > size) {
                return false;
            }
            size = n;
            return true;
        }

        int size() {
            return size;
        }

        /** Bytes that were cut off can still be read, so that a call may empty the tape first. */
        int byteAt(int k) {
            return k >= 0 && k < MOST ? row[k] : 0;
        }
    }

    /** All that an act can change lies in one row of cells, so that it is kept and put back whole. */
    private static final class Land {
        static final int WIDE_CELL = 0;
        static final int DEEP_CELL = 1;
        static final int TERM_CELLS = 2;
        static final int HEIGHT_CELLS = TERM_CELLS + TERMS;
        static final int WET_CELLS = HEIGHT_CELLS + MOST_PLACES;
        static final int ROAD_CELLS = WET_CELLS + MOST_PLACES;
        static final int ROAD_SIZE = 1 + 2 * ROAD_PLACES;
        static final int CELLS = ROAD_CELLS + ROADS * ROAD_SIZE;
        private final int[] cells;
        private final int[] besides;

        Land() {
            cells = new int[CELLS];
            besides = new int[ALL_STEPS];
            Arrays.fill(besides, NONE);
            System.arraycopy(TERM_FIRST, 0, cells, TERM_CELLS, TERMS);
        }

        void take(int[] others, int first) {
            System.arraycopy(others, first, cells, 0, CELLS);
            layOut();
        }

        void copyTo(int[] others, int first) {
            System.arraycopy(cells, 0, others, first, CELLS);
        }

        private void layOut() {
            Arrays.fill(besides, NONE);
            for (int row = 0; row < deep(); row++) {
                for (int column = 0; column < wide(); column++) {
                    layOutPlace(row, column);
                }
            }
        }

        private void layOutPlace(int row, int column) {
            int first = (row * wide() + column) * HEADINGS;
            for (int heading = 0; heading < HEADINGS; heading++) {
                int toRow = row + ROW_MOVE[heading];
                int toColumn = column + COLUMN_MOVE[heading];
                if (toRow >= 0 && toRow < deep() && toColumn >= 0 && toColumn < wide()) {
                    besides[first + heading] = toRow * wide() + toColumn;
                }
            }
        }

        int wide() {
            return cells[WIDE_CELL];
        }

        int deep() {
            return cells[DEEP_CELL];
        }

        int places() {
            return cells[WIDE_CELL] * cells[DEEP_CELL];
        }

        int value(int which) {
            return cells[TERM_CELLS + which];
        }

        void setValue(int which, int n) {
            cells[TERM_CELLS + which] = n;
        }

        int height(int place) {
            return cells[HEIGHT_CELLS + place];
        }

        void setHeight(int place, int height) {
            cells[HEIGHT_CELLS + place] = height;
        }

        boolean isWet(int place) {
            return place != NONE && cells[WET_CELLS + place] != 0;
        }

        void setWet(int place, boolean is) {
            cells[WET_CELLS + place] = is ? 1 : 0;
        }

        int wetPlaces() {
            int wet = 0;
            for (int place = 0; place < places(); place++) {
                wet += cells[WET_CELLS + place];
            }
            return wet;
        }

        boolean isBuilt(int which) {
            return roadSize(which) != 0;
        }

        int roadSize(int which) {
            return cells[ROAD_CELLS + which * ROAD_SIZE];
        }

        int roadPlace(int which, int k) {
            return cells[ROAD_CELLS + which * ROAD_SIZE + 1 + k];
        }

        int roadOffset(int which, int k) {
            return cells[ROAD_CELLS + which * ROAD_SIZE + 1 + ROAD_PLACES + k];
        }

        void setRoadOffset(int which, int k, int offset) {
            cells[ROAD_CELLS + which * ROAD_SIZE + 1 + ROAD_PLACES + k] = offset;
        }

        void clearRoad(int which) {
            int first = ROAD_CELLS + which * ROAD_SIZE;
            Arrays.fill(cells, first, first + ROAD_SIZE, 0);
        }

        void setRoad(int which, int[] row, int size) {
            clearRoad(which);
            int first = ROAD_CELLS + which * ROAD_SIZE;
            cells[first] = size;
            System.arraycopy(row, 0, cells, first + 1, size);
        }

        int builtBits() {
            int bits = 0;
            for (int which = 0; which < ROADS; which++) {
                bits |= isBuilt(which) ? 1 << which : 0;
            }
            return bits;
        }

        /** By which heading the k-th step of a road goes. */
        int roadHeading(int which, int k) {
            return headingTo(roadPlace(which, k), roadPlace(which, k + 1));
        }

        /** To a place beside: of the eight the last one need not be looked at. */
        int headingTo(int place, int next) {
            int heading = 0;
            while (heading < HEADINGS - 1 && besides[place * HEADINGS + heading] != next) {
                heading++;
            }
            return heading;
        }

        int besideOf(int place, int heading) {
            return besides[place * HEADINGS + heading];
        }

        boolean isEdge(int place) {
            for (int heading = 0; heading < HEADINGS; heading++) {
                if (besideOf(place, heading) == NONE) {
                    return true;
                }
            }
            return false;
        }

        int differ(int place, int other) {
            int rise = cells[HEIGHT_CELLS + other] - cells[HEIGHT_CELLS + place];
            return rise < 0 ? -rise : rise;
        }

        /** Whether a step could be if it were not too steep. */
        boolean isOpen(int place, int heading) {
            int next = besideOf(place, heading);
            if (next == NONE || isWet(place) || isWet(next)) {
                return false;
            }
            return (heading & 1) == 0
                    || !isWet(besideOf(place, (heading - 1) & 7))
                    || !isWet(besideOf(place, (heading + 1) & 7));
        }

        boolean isSteep(int place, int heading, int grade) {
            return 100 * differ(place, besideOf(place, heading)) > grade * longOf(heading);
        }

        boolean canStep(int place, int heading) {
            return isOpen(place, heading) && !isSteep(place, heading, value(GRADE));
        }

        int stepBits(int place) {
            int bits = 0;
            for (int heading = 0; heading < HEADINGS; heading++) {
                bits |= canStep(place, heading) ? 1 << heading : 0;
            }
            return bits;
        }

        boolean isFlat(int place) {
            for (int heading = 0; heading < HEADINGS; heading++) {
                int next = besideOf(place, heading);
                if (next != NONE && differ(place, next) > value(FLAT)) {
                    return false;
                }
            }
            return true;
        }

        int stepCost(int place, int heading) {
            return longOf(heading) + value(RISE) * differ(place, besideOf(place, heading));
        }

        int bendCost(int bend) {
            return bend <= value(BEND) ? value(TURN) * bend : value(HAIR);
        }
    }

    /** Reads the text of a land into cells of its own, so that of a wrong one nothing stays. */
    private static final class Text {
        private static final int MOST_CLAUSES = 14;
        private static final int BLANK = 32;
        private final Tape tape;
        private final int[] told;
        private final boolean[] toldTerms;
        private int size;
        private int next;
        private int begin;

        Text(Tape tape) {
            this.tape = tape;
            told = new int[Land.CELLS];
            toldTerms = new boolean[TERMS];
        }

        int[] told() {
            return told;
        }

        /** The first wrong byte, or NONE. */
        int read() {
            size = tape.size();
            next = 0;
            Arrays.fill(told, 0);
            System.arraycopy(TERM_FIRST, 0, told, Land.TERM_CELLS, TERMS);
            for (int which = 0; which < TERMS; which++) {
                toldTerms[which] = false;
            }
            return readSize() && readRows() && readClauses() ? NONE : begin;
        }

        private boolean readSize() {
            return readWord("land") && readNumber(2, 9, Land.WIDE_CELL) && readNumber(2, 9, Land.DEEP_CELL);
        }

        private boolean readRows() {
            int wide = told[Land.WIDE_CELL];
            int places = wide * told[Land.DEEP_CELL];
            int inRow = 0;
            for (int place = 0; place < places; place++) {
                if (inRow == 0 && !(readMark() && readWord("row"))) {
                    return false;
                }
                if (!readNumber(0, MOST_HEIGHT, Land.HEIGHT_CELLS + place)) {
                    return false;
                }
                inRow = inRow + 1 == wide ? 0 : inRow + 1;
            }
            return true;
        }

        private boolean readClauses() {
            for (int clause = 0; clause <= MOST_CLAUSES; clause++) {
                toNextThing();
                if (begin == size) {
                    return true;
                }
                if (!readMark()) {
                    return false;
                }
                toNextThing();
                if (clause == MOST_CLAUSES || !readClause()) {
                    return false;
                }
            }
            return false;
        }

        private boolean readClause() {
            if (readWord("wet")) {
                return readWet();
            }
            for (int which = 0; which < TERMS; which++) {
                if (!toldTerms[which] && readWord(wordOf(which))) {
                    toldTerms[which] = true;
                    return readNumber(TERM_LEAST[which], TERM_MOST[which], Land.TERM_CELLS + which);
                }
            }
            return false;
        }

        private boolean readWet() {
            int places = told[Land.WIDE_CELL] * told[Land.DEEP_CELL];
            int number = number(0, places - 1);
            if (number == NONE || told[Land.WET_CELLS + number] != 0) {
                return false;
            }
            told[Land.WET_CELLS + number] = 1;
            return true;
        }

        private boolean readNumber(int least, int most, int cell) {
            int number = number(least, most);
            if (number == NONE) {
                return false;
            }
            told[cell] = number;
            return true;
        }

        private int number(int least, int most) {
            toNextThing();
            int digits = 0;
            int number = 0;
            for (int k = begin; k < size && tape.byteAt(k) >= '0' && tape.byteAt(k) <= '9'; k++) {
                digits++;
                if (digits > 2) {
                    return NONE;
                }
                number = number * 10 + tape.byteAt(k) - '0';
            }
            next = begin + digits;
            return digits == 0 || number < least || number > most ? NONE : number;
        }

        private boolean readMark() {
            toNextThing();
            if (begin == size || tape.byteAt(begin) != ';') {
                return false;
            }
            next = begin + 1;
            return true;
        }

        /** If another word, or none, comes next, nothing is read: begin is where that stands. */
        private boolean readWord(String word) {
            toNextThing();
            int length = 0;
            for (int k = begin; k < size && tape.byteAt(k) >= 'a' && tape.byteAt(k) <= 'z'; k++) {
                if (length >= word.length() || tape.byteAt(k) != word.charAt(length)) {
                    return false;
                }
                length++;
            }
            if (length != word.length()) {
                return false;
            }
            next = begin + length;
            return true;
        }

        private void toNextThing() {
            begin = next;
            while (begin < size && tape.byteAt(begin) == BLANK) {
                begin++;
            }
            next = begin;
        }

        private static String wordOf(int which) {
            switch (which) {
                case GRADE:
                    return "grade";
                case BEND:
                    return "bend";
                case FLAT:
                    return "flat";
                case RISE:
                    return "rise";
                case TURN:
                    return "turn";
                case HAIR:
                    return "hair";
                case BORE:
                    return "bore";
                case DEPTH:
                    return "depth";
                case DIG:
                    return "dig";
                case FILL:
                    return "fill";
                default:
                    return "spoil";
            }
        }
    }

    /** What the land was ahead of each of the latest acts: a ring, in which the ninth takes the first one's room. */
    private static final class Past {
        private static final int MOST = 8;
        private final int[] kept;
        private int first;
        private int size;

        Past() {
            kept = new int[MOST * Land.CELLS];
            first = 0;
            size = 0;
        }

        int size() {
            return size;
        }

        void forget() {
            size = 0;
        }

        void remember(Land land) {
            land.copyTo(kept, room());
            if (size < MOST) {
                size++;
            } else {
                first = (first + 1) & 7;
            }
        }

        void takeBack(Land land) {
            if (size > 0) {
                size--;
                land.take(kept, room());
            }
        }

        private int room() {
            return ((first + size) & 7) * Land.CELLS;
        }
    }

    /** Where water runs: it does not care what is wet. */
    private static final class Streams {
        private static final int UNMET = 0;
        private static final int MET = 1;
        private static final int PASSED = 2;
        private final Land land;
        private final int[] runs;
        private final int[] catches;
        private final int[] marks;

        Streams(Land land) {
            this.land = land;
            runs = new int[MOST_PLACES];
            catches = new int[MOST_PLACES];
            marks = new int[MOST_PLACES];
        }

        int runOf(int place) {
            int lowest = NONE;
            int least = land.height(place);
            for (int heading = 0; heading < HEADINGS; heading++) {
                int next = land.besideOf(place, heading);
                if (next != NONE && land.height(next) < least) {
                    lowest = next;
                    least = land.height(next);
                }
            }
            return lowest;
        }

        int sinks() {
            int sinks = 0;
            for (int place = 0; place < land.places(); place++) {
                sinks += runOf(place) == NONE ? 1 : 0;
            }
            return sinks;
        }

        /** Finds every catch anew. */
        void gather() {
            int places = land.places();
            for (int place = 0; place < places; place++) {
                runs[place] = runOf(place);
                catches[place] = 0;
            }
            for (int place = 0; place < places; place++) {
                int at = place;
                for (int k = 0; k < places && at != NONE; k++) {
                    catches[at]++;
                    at = runs[at];
                }
            }
        }

        int catchOf(int place) {
            return catches[place];
        }

        /** The water rises from the place and always goes on over the lowest place that it has met. */
        int spillOf(int place) {
            Arrays.fill(marks, UNMET);
            marks[place] = MET;
            int greatest = 0;
            for (int k = 0; k < land.places(); k++) {
                int lowest = lowestMet();
                if (lowest == NONE) {
                    return greatest;
                }
                greatest = Math.max(greatest, land.height(lowest));
                if (land.isEdge(lowest)) {
                    return greatest;
                }
                pass(lowest);
            }
            return greatest;
        }

        private int lowestMet() {
            int lowest = NONE;
            for (int place = 0; place < land.places(); place++) {
                if (marks[place] == MET && (lowest == NONE || land.height(place) < land.height(lowest))) {
                    lowest = place;
                }
            }
            return lowest;
        }

        private void pass(int place) {
            marks[place] = PASSED;
            for (int heading = 0; heading < HEADINGS; heading++) {
                int next = land.besideOf(place, heading);
                if (next != NONE && marks[next] == UNMET) {
                    marks[next] = MET;
                }
            }
        }
    }

    /** Gives out numbered nodes, that of the least key first; a key can be made less while its node waits. */
    private static final class Heap {
        private final int[] keys;
        private final int[] spots;
        private final int[] nodes;
        private int size;

        Heap(int most) {
            keys = new int[most];
            spots = new int[most];
            nodes = new int[most];
            size = 0;
        }

        void clear(int used) {
            Arrays.fill(keys, 0, used, FAR);
            size = 0;
        }

        boolean isEmpty() {
            return size == 0;
        }

        int key(int node) {
            return keys[node];
        }

        void offer(int node, int key) {
            if (key >= keys[node]) {
                return;
            }
            if (keys[node] == FAR) {
                spots[node] = size;
                size++;
            }
            keys[node] = key;
            rise(node, spots[node]);
        }

        int poll() {
            if (size == 0) {
                return NONE;
            }
            int top = nodes[0];
            size--;
            if (size > 0) {
                sink(nodes[size]);
            }
            return top;
        }

        private void rise(int node, int from) {
            int spot = from;
            while (spot > 0) {
                int above = (spot - 1) >> 1;
                if (keys[nodes[above]] <= keys[node]) {
                    break;
                }
                nodes[spot] = nodes[above];
                spots[nodes[spot]] = spot;
                spot = above;
            }
            nodes[spot] = node;
            spots[node] = spot;
        }

        private void sink(int node) {
            int spot = 0;
            int below = 1;
            while (below < size) {
                if (below + 1 < size && keys[nodes[below + 1]] < keys[nodes[below]]) {
                    below++;
                }
                if (keys[node] <= keys[nodes[below]]) {
                    break;
                }
                nodes[spot] = nodes[below];
                spots[nodes[spot]] = spot;
                spot = below;
                below = 2 * spot + 1;
            }
            nodes[spot] = node;
            spots[node] = spot;
        }
    }

    /**
     * Searches over steps, not places, as a bend needs the heading by which a place was come to. It goes
     * from the goal backwards, so that the places that come first can then be picked from the start on.
     */
    private static final class Ways {
        /** A weight is a measure and, in its lowest bits, how many steps: fewest steps win among like ones. */
        private static final int STEP_BITS = 10;
        private static final int LAYERS = MOST_BORED + 1;
        private static final int MOST_BEND = 4;
        private final Land land;
        private final Streams streams;
        private final int[] weights;
        private final int[] lifts;
        private final boolean[] flats;
        private final int[] bendWeights;
        private final int[] used;
        private final Heap heap;
        private final int[] path;
        private final int[] seen;
        private final int[] queue;
        private int mostBend;
        private int layers;
        private int pathSize;

        Ways(Land land, Streams streams) {
            this.land = land;
            this.streams = streams;
            weights = new int[ALL_STEPS];
            lifts = new int[ALL_STEPS];
            flats = new boolean[MOST_PLACES];
            bendWeights = new int[MOST_BEND + 1];
            used = new int[MOST_PLACES];
            heap = new Heap(ALL_STEPS * LAYERS);
            path = new int[ALL_STEPS + 1];
            seen = new int[ALL_STEPS];
            queue = new int[ALL_STEPS];
            layers = 1;
            pathSize = 0;
        }

        int[] path() {
            return path;
        }

        int pathSize() {
            return pathSize;
        }

        int measure(int from, int to, int kind) {
            prepare(kind, land.value(GRADE), false);
            search(to, from);
            return left(from);
        }

        /** As measure, and the way itself is the path then. */
        int find(int from, int to, int kind) {
            prepare(kind, land.value(GRADE), false);
            search(to, from);
            walk(from, to);
            return left(from);
        }

        int measureBored(int from, int to, int bores) {
            prepare(BY_COST, land.value(GRADE), true);
            layers = bores + 1;
            search(to, from);
            return left(from);
        }

        /** Costs are the same to and fro, so what is left to the goal is also the cost from it. */
        void searchAll(int goal) {
            prepare(BY_COST, land.value(GRADE), false);
            search(goal, NONE);
        }

        /** By the latest searchAll. */
        int costBetween(int place, int goal) {
            return place == goal ? 0 : left(place);
        }

        void prepare(int kind, int grade, boolean boring) {
            boolean bendsCost = kind == BY_COST || kind == BY_USED || kind == BY_WASHED;
            layers = 1;
            mostBend = land.value(BEND);
            for (int bend = 0; bend <= MOST_BEND; bend++) {
                bendWeights[bend] = bendsCost ? land.bendCost(bend) << STEP_BITS : 0;
            }
            if (kind == BY_USED) {
                markUsed();
            }
            if (kind == BY_WASHED) {
                streams.gather();
            }
            for (int place = 0; place < land.places(); place++) {
                flats[place] = land.isFlat(place);
                for (int heading = 0; heading < HEADINGS; heading++) {
                    weigh(place, heading, kind, grade, boring);
                }
            }
        }

        private void weigh(int place, int heading, int kind, int grade, boolean boring) {
            int step = place * HEADINGS + heading;
            weights[step] = NONE;
            lifts[step] = 0;
            if (!land.isOpen(place, heading)) {
                return;
            }
            if (land.isSteep(place, heading, grade)) {
                lifts[step] = 1;
                if (!boring) {
                    return;
                }
            }
            int much = amount(place, heading, kind) + lifts[step] * land.value(BORE);
            // with bores a way may have more steps than the lowest bits hold, and no one asks how many
            weights[step] = (much << STEP_BITS) + (boring ? 0 : 1);
        }

        private int amount(int place, int heading, int kind) {
            int next = land.besideOf(place, heading);
            int rise = land.height(next) - land.height(place);
            int cost = longOf(heading) + land.value(RISE) * (rise < 0 ? -rise : rise);
            switch (kind) {
                case BY_LONG:
                    return longOf(heading);
                case BY_CLIMB:
                    return rise < 0 ? 0 : rise;
                case BY_STEPS:
                    return 1;
                case BY_USED:
                    return cost >> ((used[place] >> heading) & 1);
                case BY_WASHED:
                    return cost + streams.catchOf(next);
                default:
                    return cost;
            }
        }

        private void markUsed() {
            Arrays.fill(used, 0);
            for (int which = 0; which < ROADS; which++) {
                for (int k = 0; k + 1 < land.roadSize(which); k++) {
                    int heading = land.roadHeading(which, k);
                    used[land.roadPlace(which, k)] |= 1 << heading;
                    used[land.roadPlace(which, k + 1)] |= 1 << opposite(heading);
                }
            }
        }

        /** A step is there no more, to and fro, until it is given its weights again. */
        int takeWeight(int place, int heading) {
            int step = place * HEADINGS + heading;
            int weight = weights[step];
            weights[step] = NONE;
            return weight;
        }

        void giveWeight(int place, int heading, int weight) {
            weights[place * HEADINGS + heading] = weight;
        }

        boolean canBend(int place, int heading, int other) {
            return flats[place] || eighths(heading, other) <= mostBend;
        }

        /** Once a step from the place stop is the nearest one, what is farther is not searched. */
        void search(int goal, int stop) {
            heap.clear(layers * ALL_STEPS);
            offerStepsTo(goal, NONE, 0, 0);
            for (int k = 0; k < LAYERS * ALL_STEPS && !heap.isEmpty(); k++) {
                int node = heap.poll();
                int place = (node % ALL_STEPS) / HEADINGS;
                if (place == stop) {
                    return;
                }
                offerStepsTo(place, node & 7, node / ALL_STEPS, heap.key(node));
            }
        }

        private void offerStepsTo(int place, int after, int layer, int key) {
            for (int heading = 0; heading < HEADINGS; heading++) {
                int before = land.besideOf(place, opposite(heading));
                int step = before * HEADINGS + heading;
                if (before == NONE || weights[step] == NONE || layer + lifts[step] >= layers) {
                    continue;
                }
                int bendWeight = 0;
                if (after != NONE) {
                    if (!canBend(place, heading, after)) {
                        continue;
                    }
                    bendWeight = bendWeights[eighths(heading, after)];
                }
                heap.offer((layer + lifts[step]) * ALL_STEPS + step, key + bendWeight + weights[step]);
            }
        }

        private int leastKey(int place) {
            int least = FAR;
            for (int layer = 0; layer < layers; layer++) {
                int first = layer * ALL_STEPS + place * HEADINGS;
                for (int heading = 0; heading < HEADINGS; heading++) {
                    least = Math.min(least, heap.key(first + heading));
                }
            }
            return least;
        }

        int left(int place) {
            int key = leastKey(place);
            return key == FAR ? NONE : key >> STEP_BITS;
        }

        private void walk(int from, int to) {
            pathSize = 0;
            int key = leastKey(from);
            if (key == FAR) {
                return;
            }
            path[0] = from;
            pathSize = 1;
            int place = from;
            int heading = NONE;
            for (int k = 1; k < path.length && place != to; k++) {
                heading = firstHeading(place, heading, key);
                if (heading == NONE) {
                    return;
                }
                int step = place * HEADINGS + heading;
                key = heap.key(step) - weights[step];
                place = land.besideOf(place, heading);
                path[k] = place;
                pathSize = k + 1;
            }
        }

        /** Of the steps by which just so much is left, that to the place that comes first. */
        private int firstHeading(int place, int before, int key) {
            int first = NONE;
            int firstPlace = MOST_PLACES;
            for (int heading = 0; heading < HEADINGS; heading++) {
                int step = place * HEADINGS + heading;
                if (weights[step] == NONE || before != NONE && !canBend(place, before, heading)) {
                    continue;
                }
                int bendWeight = before == NONE ? 0 : bendWeights[eighths(before, heading)];
                int next = land.besideOf(place, heading);
                if (heap.key(step) + bendWeight == key && next < firstPlace) {
                    first = heading;
                    firstPlace = next;
                }
            }
            return first;
        }

        /** Whether there is a way at all; with NONE for the goal all that can be reached is marked. */
        boolean spread(int from, int to, int[] arrived) {
            Arrays.fill(seen, 0);
            Arrays.fill(arrived, 0);
            int size = line(from, NONE, 0);
            for (int k = 0; k < size && k < ALL_STEPS; k++) {
                int heading = queue[k] & 7;
                int next = land.besideOf(queue[k] / HEADINGS, heading);
                arrived[next] = 1;
                if (next == to) {
                    return true;
                }
                size = line(next, heading, size);
            }
            return false;
        }

        private int line(int place, int before, int size) {
            int end = size;
            for (int heading = 0; heading < HEADINGS; heading++) {
                int step = place * HEADINGS + heading;
                if (weights[step] == NONE || seen[step] != 0) {
                    continue;
                }
                if (before == NONE || canBend(place, before, heading)) {
                    seen[step] = 1;
                    queue[end] = step;
                    end++;
                }
            }
            return end;
        }
    }

    /** What is asked of several ways at once. */
    private static final class Planner {
        private static final int SETS = 1 << (ROUND_PLACES - 1);
        private final Land land;
        private final Ways ways;
        private final int[] marks;
        private final int[] touched;
        private final int[] sums;
        private final int[] stops;
        private final int[] legs;
        private final int[] tours;
        private int stopsSize;
        private int spareCost;

        Planner(Land land, Ways ways) {
            this.land = land;
            this.ways = ways;
            marks = new int[MOST_PLACES];
            touched = new int[MOST_PLACES];
            sums = new int[MOST_PLACES];
            stops = new int[ROUND_PLACES];
            legs = new int[ROUND_PLACES * ROUND_PLACES];
            tours = new int[SETS * ROUND_PLACES];
            stopsSize = 0;
            spareCost = NONE;
        }

        int reached(int place) {
            ways.prepare(BY_STEPS, land.value(GRADE), false);
            ways.spread(place, NONE, marks);
            int reached = 0;
            for (int other = 0; other < land.places(); other++) {
                reached += other == place ? 0 : marks[other];
            }
            return reached;
        }

        private boolean isWay(int from, int to, int grade) {
            ways.prepare(BY_STEPS, grade, false);
            return ways.spread(from, to, marks);
        }

        /** A greater grade forbids no step, so the bounds can be halved. */
        int leastGrade(int from, int to) {
            if (!isWay(from, to, MOST_GRADE)) {
                return NONE;
            }
            int low = 1;
            int high = MOST_GRADE;
            while (low < high) {
                int middle = (low + high) / 2;
                if (isWay(from, to, middle)) {
                    high = middle;
                } else {
                    low = middle + 1;
                }
            }
            return high;
        }

        int firstGate(int from, int to) {
            if (ways.find(from, to, BY_STEPS) == NONE) {
                return NONE;
            }
            markTouched();
            for (int place = 0; place < land.places(); place++) {
                if (touched[place] != 0 && place != from && place != to && !isWayWithout(place, from, to)) {
                    return place;
                }
            }
            return NONE;
        }

        /** Only a place that the path touches can break it, so no other need be tried. */
        private void markTouched() {
            int[] path = ways.path();
            Arrays.fill(touched, 0);
            for (int k = 0; k + 1 < ways.pathSize(); k++) {
                int heading = land.headingTo(path[k], path[k + 1]);
                touched[path[k + 1]] = 1;
                if ((heading & 1) != 0) {
                    touched[land.besideOf(path[k], heading - 1)] = 1;
                    touched[land.besideOf(path[k], (heading + 1) & 7)] = 1;
                }
            }
        }

        private boolean isWayWithout(int place, int from, int to) {
            if (land.isWet(place)) {
                return true;
            }
            land.setWet(place, true);
            boolean is = isWay(from, to, land.value(GRADE));
            land.setWet(place, false);
            return is;
        }

        void clearSums() {
            Arrays.fill(sums, 0);
        }

        void addCosts(int goal) {
            ways.searchAll(goal);
            for (int place = 0; place < land.places(); place++) {
                int cost = ways.costBetween(place, goal);
                sums[place] = cost == NONE || sums[place] == FAR ? FAR : sums[place] + cost;
            }
        }

        int leastSumPlace() {
            int where = NONE;
            for (int place = 0; place < land.places(); place++) {
                if (sums[place] < FAR && (where == NONE || sums[place] < sums[where])) {
                    where = place;
                }
            }
            return where;
        }

        int sumAt(int where) {
            return sums[where];
        }

        boolean takeRound(Tape tape, int size) {
            if (size < 2 || size > ROUND_PLACES) {
                return false;
            }
            for (int k = 0; k < size; k++) {
                stops[k] = tape.byteAt(k);
                if (stops[k] >= land.places()) {
                    return false;
                }
                for (int other = 0; other < k; other++) {
                    if (stops[other] == stops[k]) {
                        return false;
                    }
                }
            }
            stopsSize = size;
            return true;
        }

        /** The least cost for each set of places behind the first and each last one of it, set by set. */
        int leastRound() {
            findLegs();
            int sets = 1 << (stopsSize - 1);
            Arrays.fill(tours, FAR);
            for (int last = 1; last < stopsSize; last++) {
                tours[(1 << (last - 1)) * ROUND_PLACES + last] = legs[last];
            }
            for (int set = 1; set < sets; set++) {
                for (int last = 1; last < stopsSize; last++) {
                    extend(set, last);
                }
            }
            int least = FAR;
            for (int last = 1; last < stopsSize; last++) {
                least = Math.min(least, tours[(sets - 1) * ROUND_PLACES + last] + legs[last]);
            }
            return least >= FAR ? NONE : least;
        }

        private void findLegs() {
            for (int k = 0; k < stopsSize; k++) {
                ways.searchAll(stops[k]);
                for (int other = 0; other < stopsSize; other++) {
                    int cost = ways.costBetween(stops[other], stops[k]);
                    legs[k * ROUND_PLACES + other] = cost == NONE ? FAR : cost;
                }
            }
        }

        private void extend(int set, int last) {
            int cost = tours[set * ROUND_PLACES + last];
            for (int next = 1; next < stopsSize; next++) {
                int bit = 1 << (next - 1);
                int leg = legs[last * ROUND_PLACES + next];
                if (cost < FAR && leg < FAR && (set & bit) == 0) {
                    int wider = (set | bit) * ROUND_PLACES + next;
                    tours[wider] = Math.min(tours[wider], cost + leg);
                }
            }
        }

        /** The number of the road's place, as the road may come to a place twice. */
        int joiningIndex(int place, int which) {
            ways.searchAll(place);
            int first = NONE;
            int least = FAR;
            for (int k = 0; k < land.roadSize(which); k++) {
                int cost = ways.costBetween(land.roadPlace(which, k), place);
                if (cost != NONE && cost < least) {
                    first = k;
                    least = cost;
                }
            }
            return first;
        }

        /** The number of the step; dearestCost is what the best way costs without it. */
        int dearestStep(int from, int to) {
            spareCost = NONE;
            if (ways.find(from, to, BY_COST) == NONE) {
                return NONE;
            }
            int dearest = NONE;
            int steps = ways.pathSize() - 1;
            for (int step = 0; step < steps; step++) {
                int cost = costWithout(step, from, to);
                if (cost == NONE) {
                    spareCost = NONE;
                    return step;
                }
                if (cost > spareCost) {
                    dearest = step;
                    spareCost = cost;
                }
            }
            return dearest;
        }

        int dearestCost() {
            return spareCost;
        }

        private int costWithout(int step, int from, int to) {
            int place = ways.path()[step];
            int next = ways.path()[step + 1];
            int heading = land.headingTo(place, next);
            int weight = ways.takeWeight(place, heading);
            int weightBack = ways.takeWeight(next, opposite(heading));
            ways.search(to, from);
            ways.giveWeight(place, heading, weight);
            ways.giveWeight(next, opposite(heading), weightBack);
            return ways.left(from);
        }
    }

    /**
     * The cheapest cuttings and banks of a road. From its last place back it is found, for each offset and
     * for what all offsets up to there come to, what earth is needed from there on, and which offset is next.
     */
    private static final class Grader {
        private static final int MOST_DEPTH = 3;
        private static final int DEPTHS = 2 * MOST_DEPTH + 1;
        /** From more than that no road's other offsets could come back to the greatest spoil. */
        private static final int MOST_SUM = 75;
        private static final int SUMS = 2 * MOST_SUM + 1;
        private static final int CHOICE_BITS = 3;
        private static final int BEYOND = MOST_DEPTH + 1;
        private final Land land;
        /** Of two places alone, as those of a place need just those of the next one. */
        private final int[] earths;
        /** The next offset for each offset, in so many bits each. */
        private final int[] choices;
        private int start;
        private int depth;
        private int rising;
        private int room;
        private int nextBound;

        Grader(Land land) {
            this.land = land;
            earths = new int[2 * DEPTHS * SUMS];
            choices = new int[ROAD_PLACES * SUMS];
            start = 0;
        }

        /** A greater rule forbids nothing, so the bounds can be halved. */
        int leastRule(int which) {
            if (leastEarth(which, MOST_RULE) == NONE) {
                return NONE;
            }
            int low = 0;
            int high = MOST_RULE;
            while (low < high) {
                int middle = (low + high) / 2;
                if (leastEarth(which, middle) == NONE) {
                    low = middle + 1;
                } else {
                    high = middle;
                }
            }
            return high;
        }

        /** NONE, if there is no grading. */
        int leastEarth(int which, int rule) {
            depth = land.value(DEPTH);
            for (int k = land.roadSize(which) - 1; k >= 0; k--) {
                fillPlace(which, rule, k);
            }
            int least = FAR;
            for (int offset = -depth; offset <= depth; offset++) {
                int earth = earths[cell(0, offset, offset)];
                if (earth < least) {
                    least = earth;
                    start = offset;
                }
            }
            return least >= FAR ? NONE : least;
        }

        private void fillPlace(int which, int rule, int k) {
            boolean isLast = k + 1 == land.roadSize(which);
            int bound = bound(which, k);
            if (!isLast) {
                look(which, rule, k);
            }
            for (int sum = -bound; sum <= bound; sum++) {
                int choice = 0;
                for (int offset = -depth; offset <= depth; offset++) {
                    int next = isLast ? 0 : bestNext(k, offset, sum);
                    int ahead = isLast || next == BEYOND ? 0 : earths[cell(k + 1, next, sum + next)];
                    earths[cell(k, offset, sum)] = next == BEYOND ? FAR : earthOf(offset) + ahead;
                    choice |= (next + MOST_DEPTH) << choiceShift(offset);
                }
                choices[k * SUMS + sum + MOST_SUM] = choice;
            }
        }

        /** How the step behind a place rises, and by how much its levels may differ. */
        private void look(int which, int rule, int k) {
            rising = land.height(land.roadPlace(which, k + 1)) - land.height(land.roadPlace(which, k));
            room = rule * longOf(land.roadHeading(which, k)) / 100;
            nextBound = bound(which, k + 1);
        }

        /** The first of the next offsets that need the least earth; beyond all of them, if none can be. */
        private int bestNext(int k, int offset, int sum) {
            int from = Math.max(Math.max(-depth, offset - rising - room), -nextBound - sum);
            int to = Math.min(Math.min(depth, offset - rising + room), nextBound - sum);
            int best = BEYOND;
            int least = FAR;
            int cell = cell(k + 1, from, sum + from);
            for (int next = from; next <= to; next++) {
                if (earths[cell] < least) {
                    best = next;
                    least = earths[cell];
                }
                // a next offset of one more makes the sum one more, too
                cell += SUMS + 1;
            }
            return best;
        }

        /** What offsets up to a place can come to, if all of them are to come to the spoil at most. */
        private int bound(int which, int k) {
            int come = depth * (k + 1);
            int stay = land.value(SPOIL) + depth * (land.roadSize(which) - 1 - k);
            return Math.min(MOST_SUM, Math.min(come, stay));
        }

        private static int cell(int k, int offset, int sum) {
            return ((k & 1) * DEPTHS + offset + MOST_DEPTH) * SUMS + sum + MOST_SUM;
        }

        private static int choiceShift(int offset) {
            return CHOICE_BITS * (offset + MOST_DEPTH);
        }

        int earthOf(int offset) {
            return offset < 0 ? -offset * land.value(DIG) : offset * land.value(FILL);
        }

        /** Gives the road the offsets of the latest leastEarth, which must have been of it, and not NONE. */
        void settle(int which) {
            int offset = start;
            int sum = 0;
            for (int k = 0; k < land.roadSize(which); k++) {
                land.setRoadOffset(which, k, offset);
                sum += offset;
                offset = ((choices[k * SUMS + sum + MOST_SUM] >> choiceShift(offset)) & 7) - MOST_DEPTH;
            }
        }
    }

    /** What is asked of a road as it lies. */
    private static final class Survey {
        private final Land land;
        private final Grader grader;
        private final Streams streams;
        private final int[] marks;

        Survey(Land land, Grader grader, Streams streams) {
            this.land = land;
            this.grader = grader;
            this.streams = streams;
            marks = new int[MOST_PLACES];
        }

        int answer(int which, int what) {
            switch (what) {
                case 0:
                    return land.roadSize(which);
                case 1:
                    return longTogether(which);
                case 2:
                    return climbed(which, 1);
                case 3:
                    return costTogether(which);
                case 4:
                    return hairpins(which);
                case 5:
                    return firstBrokenStep(which);
                case 6:
                    return firstBrokenBend(which);
                case 7:
                    return steepest(which);
                case 8:
                    return earthTogether(which);
                case 9:
                    return offsetsTogether(which);
                case 10:
                    return grader.leastRule(which);
                case 11:
                    return greatestLevel(which, 1);
                case 12:
                    return -greatestLevel(which, -1);
                case 13:
                    return longestStraight(which);
                default:
                    return climbed(which, -1);
            }
        }

        private int steps(int which) {
            return land.roadSize(which) - 1;
        }

        private int longTogether(int which) {
            int sum = 0;
            for (int k = 0; k < steps(which); k++) {
                sum += longOf(land.roadHeading(which, k));
            }
            return sum;
        }

        /** With sign 1 what is gone up, with sign - 1 what is gone down. */
        private int climbed(int which, int sign) {
            int sum = 0;
            for (int k = 0; k < steps(which); k++) {
                int rise = land.height(land.roadPlace(which, k + 1)) - land.height(land.roadPlace(which, k));
                sum += Math.max(0, sign * rise);
            }
            return sum;
        }

        /** The bend at the k-th place, 1 at least. */
        private int bendAt(int which, int k) {
            return eighths(land.roadHeading(which, k - 1), land.roadHeading(which, k));
        }

        private int costTogether(int which) {
            int sum = 0;
            for (int k = 0; k < steps(which); k++) {
                sum += land.stepCost(land.roadPlace(which, k), land.roadHeading(which, k));
                sum += k == 0 ? 0 : land.bendCost(bendAt(which, k));
            }
            return sum;
        }

        private int hairpins(int which) {
            int hairpins = 0;
            for (int k = 1; k < steps(which); k++) {
                hairpins += bendAt(which, k) > land.value(BEND) ? 1 : 0;
            }
            return hairpins;
        }

        private int firstBrokenStep(int which) {
            for (int k = 0; k < steps(which); k++) {
                if (!land.canStep(land.roadPlace(which, k), land.roadHeading(which, k))) {
                    return k;
                }
            }
            return NONE;
        }

        private int firstBrokenBend(int which) {
            for (int k = 1; k < steps(which); k++) {
                if (bendAt(which, k) > land.value(BEND) && !land.isFlat(land.roadPlace(which, k))) {
                    return k;
                }
            }
            return NONE;
        }

        private int levelAt(int which, int k) {
            return land.height(land.roadPlace(which, k)) + land.roadOffset(which, k);
        }

        private int steepest(int which) {
            int first = 0;
            int most = 0;
            int mostLong = 1;
            for (int k = 0; k < steps(which); k++) {
                int differ = Math.abs(levelAt(which, k + 1) - levelAt(which, k));
                int stepLong = longOf(land.roadHeading(which, k));
                if (differ * mostLong > most * stepLong) {
                    first = k;
                    most = differ;
                    mostLong = stepLong;
                }
            }
            return first;
        }

        private int earthTogether(int which) {
            int sum = 0;
            for (int k = 0; k < land.roadSize(which); k++) {
                sum += grader.earthOf(land.roadOffset(which, k));
            }
            return sum;
        }

        private int offsetsTogether(int which) {
            int sum = 0;
            for (int k = 0; k < land.roadSize(which); k++) {
                sum += land.roadOffset(which, k);
            }
            return sum;
        }

        /** With sign - 1 of the levels turned round: the least one is found so, too. */
        private int greatestLevel(int which, int sign) {
            int greatest = -FAR;
            for (int k = 0; k < land.roadSize(which); k++) {
                greatest = Math.max(greatest, sign * levelAt(which, k));
            }
            return greatest;
        }

        private int longestStraight(int which) {
            int longest = 0;
            int straight = 0;
            for (int k = 0; k < steps(which); k++) {
                straight = k > 0 && bendAt(which, k) == 0 ? straight + 1 : 1;
                longest = Math.max(longest, straight);
            }
            return longest;
        }

        int bridgesOver(int which, int n) {
            int bridges = 0;
            streams.gather();
            Arrays.fill(marks, 0);
            for (int k = 0; k < land.roadSize(which); k++) {
                int place = land.roadPlace(which, k);
                if (marks[place] == 0 && streams.catchOf(place) >= n) {
                    bridges++;
                }
                marks[place] = 1;
            }
            return bridges;
        }

        /** If there are steps enough, fewer parts can be split on and get no longer by that. */
        int leastStage(int which, int parts) {
            if (steps(which) < parts) {
                return NONE;
            }
            int low = longOf(0);
            int high = longTogether(which);
            while (low < high) {
                int middle = (low + high) / 2;
                if (partsWithin(which, middle) <= parts) {
                    high = middle;
                } else {
                    low = middle + 1;
                }
            }
            return high;
        }

        /** In how few parts a road can be that are no longer than told; too many, if a step alone is longer. */
        private int partsWithin(int which, int most) {
            int parts = 1;
            int part = 0;
            for (int k = 0; k < steps(which); k++) {
                int stepLong = longOf(land.roadHeading(which, k));
                if (stepLong > most) {
                    return ROAD_PLACES;
                }
                if (part + stepLong > most) {
                    parts++;
                    part = 0;
                }
                part += stepLong;
            }
            return parts;
        }

        /** A step that was found is unmarked, to and fro, so that it counts once. */
        int shared(int which, int other) {
            Arrays.fill(marks, 0);
            for (int k = 0; k < steps(other); k++) {
                int heading = land.roadHeading(other, k);
                marks[land.roadPlace(other, k)] |= 1 << heading;
                marks[land.roadPlace(other, k + 1)] |= 1 << opposite(heading);
            }
            int shared = 0;
            for (int k = 0; k < steps(which); k++) {
                int heading = land.roadHeading(which, k);
                if ((marks[land.roadPlace(which, k)] & (1 << heading)) != 0) {
                    shared++;
                    marks[land.roadPlace(which, k)] &= ~(1 << heading);
                    marks[land.roadPlace(which, k + 1)] &= ~(1 << opposite(heading));
                }
            }
            return shared;
        }
    }
}
