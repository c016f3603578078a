import java.util.Arrays;

/** Roads that know their feet: a net of places and roads that open to soles they have met lately. */
public final class FeetRoads {
    public static final int NONE = -1000000, BAD = -1000001, STATE = -1000002, FULL = -1000003;

    private static final int FINDINGS = -1000010;
    private static final int NULL_FOUND = 1, PLACE_FOUND = 2, KIND_FOUND = 3, SIZE_FOUND = 4, STORE_FOUND = 5;
    private static final int FAULTS = -1000100;
    private static final int LAST_DAY = 999, MOST_DAYS_AHEAD = 99, MOST_ROADS_TOLD = 16, IMAGES = 2;

    private final Shelf shelf;
    private final Reader reader;
    private final Land here;
    private final Land draft;
    private final Acts acts;
    private final Seer seer;
    private final Asker asker;
    private final int[][] images;
    private final boolean[] imageKept;
    private int latestFault;
    private int finding;

    public FeetRoads() {
        Land land = new Land();
        shelf = new Shelf();
        reader = new Reader();
        here = land;
        draft = new Land();
        acts = new Acts();
        seer = new Seer(land);
        asker = new Asker(land);
        images = new int[IMAGES][Land.CELLS];
        imageKept = new boolean[IMAGES];
        latestFault = 0;
        finding = 0;
    }

    // ---- rows

    public int row(int row, int lane, int n) {
        if (!Shelf.hasNumber(row) || lane < 0 || lane > Shelf.INTS || n > Shelf.MOST_ITEMS) {
            return BAD;
        }
        if (n < 0) {
            return found(SIZE_FOUND);
        }
        shelf.put(row, lane, n);
        return fine(n);
    }

    public int set(int row, int i, int v) {
        if (!Shelf.hasNumber(row)) {
            return BAD;
        }
        if (shelf.isMissing(row)) {
            return found(NULL_FOUND);
        }
        if (!shelf.holds(row, i, 1)) {
            return found(PLACE_FOUND);
        }
        return fine(shelf.putItem(row, i, v));
    }

    public int copy(int a, int i, int b, int j, int n) {
        if (!Shelf.hasNumber(a) || !Shelf.hasNumber(b)) {
            return BAD;
        }
        if (shelf.isMissing(a) || shelf.isMissing(b)) {
            return found(NULL_FOUND);
        }
        if (shelf.laneOf(a) != shelf.laneOf(b)) {
            return found(STORE_FOUND);
        }
        if (!shelf.holds(a, i, n) || !shelf.holds(b, j, n)) {
            return found(PLACE_FOUND);
        }
        shelf.bring(a, i, b, j, n);
        return fine(n);
    }

    public int drop(int row) {
        if (!Shelf.hasNumber(row)) {
            return BAD;
        }
        if (shelf.isMissing(row)) {
            return found(NULL_FOUND);
        }
        return fine(shelf.takeAway(row));
    }

    // ---- lands, acts

    public int feed(int letter) {
        if (letter < 0 || letter > 255) {
            return BAD;
        }
        if (reader.isFull()) {
            return FULL;
        }
        return reader.append(letter);
    }

    public int land() {
        boolean isRead = reader.readInto(draft);
        reader.clearTape();
        if (!isRead) {
            latestFault = reader.faultNumber();
            return FAULTS - reader.faultPlace();
        }
        here.takeFrom(draft.cells);
        acts.forgetAll();
        return here.people();
    }

    public int fault() {
        return latestFault;
    }

    public int walk(int person, int road) {
        if (!here.hasPerson(person) || !here.hasRoad(road)) {
            return BAD;
        }
        if (!here.canGo(person, road)) {
            return STATE;
        }
        acts.keep(here);
        here.goOver(person, road);
        return here.placeOf(person);
    }

    public int lead(int person, int other, int road) {
        if (!here.areTwo(person, other) || !here.hasRoad(road)) {
            return BAD;
        }
        if (here.placeOf(person) != here.placeOf(other) || !here.canGo(person, road)) {
            return STATE;
        }
        acts.keep(here);
        here.goOver(person, road);
        here.goOver(other, road);
        return here.placeOf(person);
    }

    public int change(int person, int other) {
        if (!here.areTwo(person, other)) {
            return BAD;
        }
        acts.keep(here);
        here.swapSoles(person, other);
        return here.soleOf(person);
    }

    public int heels(int person) {
        if (!here.hasPerson(person)) {
            return BAD;
        }
        acts.keep(here);
        return here.forgetSole(here.soleOf(person));
    }

    public int day() {
        if (!here.stands()) {
            return STATE;
        }
        if (here.today() >= LAST_DAY) {
            return FULL;
        }
        acts.keep(here);
        here.nextDay();
        return here.today();
    }

    public int undo() {
        if (acts.number() == 0) {
            return STATE;
        }
        acts.takeBack(here);
        return acts.number();
    }

    public int person(int person, int what) {
        if (!here.hasPerson(person)) {
            return BAD;
        }
        switch (what) {
            case 0: return here.placeOf(person);
            case 1: return here.soleOf(person);
            case 2: return here.roadsOpenTo(person);
            default: return BAD;
        }
    }

    public int road(int road, int what) {
        if (!here.hasRoad(road)) {
            return BAD;
        }
        switch (what) {
            case 0: return here.oneEnd(road);
            case 1: return here.otherEnd(road);
            case 2: return here.longOf(road);
            case 3: return here.solesOf(road, here.today());
            default: return BAD;
        }
    }

    public int met(int road, int sole, int what) {
        if (!here.hasRoad(road) || !here.hasSole(sole)) {
            return BAD;
        }
        switch (what) {
            case 0: return here.timesMet(road, sole);
            case 1: return here.timesMet(road, sole) == 0 ? NONE : here.lastMet(road, sole);
            default: return BAD;
        }
    }

    // ---- foretold

    public int reach(int person) {
        return here.hasPerson(person) ? seer.reachOf(person) : BAD;
    }

    public int way(int person, int place) {
        return here.hasPerson(person) && here.hasPlace(place) ? seer.wayTo(person, place) : BAD;
    }

    public int led(int person, int other, int place) {
        return here.areTwo(person, other) && here.hasPlace(place) ? seer.ledTo(person, other, place) : BAD;
    }

    public int introduced(int person, int place, int what) {
        if (!here.hasPerson(person) || !here.hasPlace(place) || !isZeroOrOne(what)) {
            return BAD;
        }
        return seer.introducedTo(person, place, what);
    }

    public int forgets() {
        return here.stands() ? seer.daysUntilForgotten() : STATE;
    }

    public int nobody(int d) {
        if (!here.stands()) {
            return STATE;
        }
        return d < 0 || d > MOST_DAYS_AHEAD ? BAD : seer.roadsKnowingNobody(d);
    }

    public int round(int person) {
        return here.hasPerson(person) ? seer.roundOf(person) : BAD;
    }

    public int bars(int person, int place, int what) {
        if (!here.hasPerson(person) || !here.hasPlace(place) || !isZeroOrOne(what)) {
            return BAD;
        }
        if (here.placeOf(person) == place) {
            return NONE;
        }
        int barred = seer.barsAgainst(person, place);
        return what == 0 ? Integer.bitCount(barred) : barred;
    }

    public int meet(int person, int other, int what) {
        if (!here.areTwo(person, other) || !isZeroOrOne(what)) {
            return BAD;
        }
        return seer.meetingOf(person, other, what);
    }

    public int whose(int row, int i, int n, int place) {
        if (!here.stands()) {
            return STATE;
        }
        if (!Shelf.hasNumber(row) || n < 0 || n > MOST_ROADS_TOLD || !here.hasPlace(place)) {
            return BAD;
        }
        if (shelf.isMissing(row)) {
            return found(NULL_FOUND);
        }
        if (!shelf.holds(row, i, n)) {
            return found(PLACE_FOUND);
        }
        int soles = solesThatWent(row, i, n, place);
        return soles == BAD ? BAD : fine(soles);
    }

    public long snow(int person, int place, int c, int what) {
        if (!here.hasPerson(person) || !here.hasPlace(place) || c < 0 || c > 10 || !isZeroOrOne(what)) {
            return BAD;
        }
        return seer.snowOdds(person, place, c, what);
    }

    public int image(int k) {
        if (k < 0 || k >= IMAGES) {
            return BAD;
        }
        if (!here.stands()) {
            return STATE;
        }
        here.keepIn(images[k]);
        imageKept[k] = true;
        return 1;
    }

    public int restore(int k) {
        if (k < 0 || k >= IMAGES) {
            return BAD;
        }
        if (!imageKept[k]) {
            return STATE;
        }
        here.takeFrom(images[k]);
        acts.forgetAll();
        return 1;
    }

    // ---- asked

    public int kind(int road) {
        return here.hasRoad(road) ? here.kindOf(road) : BAD;
    }

    public int as(int road, int kind) {
        if (!here.hasRoad(road) || !Kinds.hasNumber(kind)) {
            return BAD;
        }
        return Kinds.isA(here.kindOf(road), kind) ? fine(road) : found(KIND_FOUND);
    }

    public int ask(int road, int what) {
        if (!here.hasRoad(road) || !isZeroOrOne(what)) {
            return BAD;
        }
        asker.clearTrace();
        return asker.answer(road, what, 0);
    }

    public int trace(int i) {
        return asker.traced(i);
    }

    public int count(int what) {
        switch (what) {
            case 0: return shelf.rowsThere();
            case 1: return here.roads();
            case 2: return here.people();
            case 3: return here.places();
            case 4: return here.fade();
            case 5: return here.today();
            case 6: return here.spent();
            case 7: return acts.number();
            case 8: return reader.length();
            default: return BAD;
        }
    }

    public int status() {
        return finding;
    }

    private static boolean isZeroOrOne(int what) {
        return what == 0 || what == 1;
    }

    private int found(int number) {
        finding = number;
        return FINDINGS - number;
    }

    private int fine(int answer) {
        finding = 0;
        return answer;
    }

    /**
     * A road that opens goes on opening when it meets the sole once more, and one that does not is never
     * gone over: so what the roads meet on the way never adds to what opens now.
     */
    private int solesThatWent(int row, int i, int n, int place) {
        int soles = here.allSoles();
        int at = place;
        for (int k = 0; k < n; k++) {
            int road = shelf.itemOf(row, i + k);
            if (!here.hasRoad(road) || !here.isEnd(road, at)) {
                return BAD;
            }
            soles &= here.solesOf(road, here.today());
            at = here.across(road, at);
        }
        return soles;
    }

    /** The tree of kinds of roads. */
    private static final class Kinds {
        static final int ROAD = 0, LANE = 1, NARROW = 2, OLD = 3, HIGHWAY = 4, RIVER = 5;
        private static final int NO_KIND = -1;
        private static final int[] ABOVE = {NO_KIND, ROAD, LANE, LANE, ROAD, HIGHWAY};

        static boolean hasNumber(int kind) {
            return kind >= ROAD && kind <= RIVER;
        }

        static int above(int kind) {
            return hasNumber(kind) ? ABOVE[kind] : NO_KIND;
        }

        static boolean isA(int kind, int other) {
            int k = kind;
            for (int step = 0; step <= RIVER && hasNumber(k); step++) {
                if (k == other) {
                    return true;
                }
                k = above(k);
            }
            return false;
        }

        /** The kind of the road that a letter of a text begins; NO_KIND where it begins none. */
        static int ofLetter(int letter) {
            switch (letter) {
                case 'l': return LANE;
                case 'n': return NARROW;
                case 'o': return OLD;
                case 'h': return HIGHWAY;
                case 'r': return RIVER;
                default: return NO_KIND;
            }
        }
    }

    /** Eight rows of numbers, each missing or with a lane and items. */
    private static final class Shelf {
        static final int BYTES = 0, SHORTS = 1, INTS = 2;
        static final int MOST_ITEMS = 40;
        private static final int ROWS = 8, MISSING = -1;

        private final int[][] items;
        private final int[] lanes;
        private final int[] sizes;

        Shelf() {
            items = new int[ROWS][MOST_ITEMS];
            lanes = new int[ROWS];
            sizes = new int[ROWS];
            Arrays.fill(sizes, MISSING);
        }

        static boolean hasNumber(int row) {
            return row >= 0 && row < ROWS;
        }

        boolean isMissing(int row) {
            return sizes[row] == MISSING;
        }

        int laneOf(int row) {
            return lanes[row];
        }

        int itemOf(int row, int i) {
            return items[row][i];
        }

        /** Whether a row has n items from i on; told so that no sum can run over. */
        boolean holds(int row, int i, int n) {
            return i >= 0 && n >= 0 && n <= sizes[row] && i <= sizes[row] - n;
        }

        void put(int row, int lane, int n) {
            Arrays.fill(items[row], 0);
            lanes[row] = lane;
            sizes[row] = n;
        }

        int putItem(int row, int i, int v) {
            items[row][i] = narrowed(lanes[row], v);
            return items[row][i];
        }

        void bring(int a, int i, int b, int j, int n) {
            System.arraycopy(items[a], i, items[b], j, n);
        }

        int takeAway(int row) {
            int had = sizes[row];
            sizes[row] = MISSING;
            return had;
        }

        int rowsThere() {
            int there = 0;
            for (int row = 0; row < ROWS; row++) {
                if (!isMissing(row)) {
                    there++;
                }
            }
            return there;
        }

        private static int narrowed(int lane, int v) {
            switch (lane) {
                case BYTES: return (byte) v;
                case SHORTS: return (short) v;
                default: return v;
            }
        }
    }

    /** A land: law, roads, people, meetings, all in one row of cells, so that it is kept and taken back whole. */
    private static final class Land {
        static final int MOST_PLACES = 8, MOST_ROADS = 9, MOST_PEOPLE = 4;
        private static final int MEETINGS = MOST_ROADS * MOST_PEOPLE;
        private static final int FADE = 0, PLACES = 1, ROADS = 2, PEOPLE = 3, DAY = 4, SPENT = 5;
        private static final int KIND_AT = 6;
        private static final int ONE_END_AT = KIND_AT + MOST_ROADS;
        private static final int OTHER_END_AT = ONE_END_AT + MOST_ROADS;
        private static final int LONG_AT = OTHER_END_AT + MOST_ROADS;
        private static final int PLACE_AT = LONG_AT + MOST_ROADS;
        private static final int SOLE_AT = PLACE_AT + MOST_PEOPLE;
        private static final int TIMES_AT = SOLE_AT + MOST_PEOPLE;
        private static final int LAST_AT = TIMES_AT + MEETINGS;
        static final int CELLS = LAST_AT + MEETINGS;

        final int[] cells;

        Land() {
            cells = new int[CELLS];
        }

        void clear() {
            Arrays.fill(cells, 0);
        }

        void keepIn(int[] kept) {
            System.arraycopy(cells, 0, kept, 0, CELLS);
        }

        void takeFrom(int[] kept) {
            System.arraycopy(kept, 0, cells, 0, CELLS);
        }

        boolean stands() {
            return cells[FADE] > 0;
        }

        int fade() {
            return cells[FADE];
        }

        int places() {
            return cells[PLACES];
        }

        int roads() {
            return cells[ROADS];
        }

        int people() {
            return cells[PEOPLE];
        }

        int today() {
            return cells[DAY];
        }

        int spent() {
            return cells[SPENT];
        }

        boolean hasPlace(int place) {
            return place >= 0 && place < places();
        }

        boolean hasRoad(int road) {
            return road >= 0 && road < roads();
        }

        boolean hasPerson(int person) {
            return person >= 0 && person < people();
        }

        /** There are as many soles as people. */
        boolean hasSole(int sole) {
            return hasPerson(sole);
        }

        boolean areTwo(int person, int other) {
            return hasPerson(person) && hasPerson(other) && person != other;
        }

        int allSoles() {
            return (1 << people()) - 1;
        }

        int kindOf(int road) {
            return cells[KIND_AT + road];
        }

        int oneEnd(int road) {
            return cells[ONE_END_AT + road];
        }

        int otherEnd(int road) {
            return cells[OTHER_END_AT + road];
        }

        int longOf(int road) {
            return cells[LONG_AT + road];
        }

        boolean isEnd(int road, int place) {
            return oneEnd(road) == place || otherEnd(road) == place;
        }

        int across(int road, int place) {
            return oneEnd(road) == place ? otherEnd(road) : oneEnd(road);
        }

        int placeOf(int person) {
            return cells[PLACE_AT + person];
        }

        int soleOf(int person) {
            return cells[SOLE_AT + person];
        }

        int timesMet(int road, int sole) {
            return cells[TIMES_AT + meeting(road, sole)];
        }

        int lastMet(int road, int sole) {
            return cells[LAST_AT + meeting(road, sole)];
        }

        /** Lanes of every kind open by what they have met; the others open always. */
        boolean opensByMeeting(int road) {
            return kindOf(road) < Kinds.HIGHWAY;
        }

        /** The last day on which a road of that kind opens to a sole that it met, if it met it often enough. */
        int lastDayOpen(int road, int sole) {
            int daysKept = kindOf(road) == Kinds.OLD ? 2 * fade() : fade();
            return cells[LAST_AT + meeting(road, sole)] + daysKept;
        }

        boolean opens(int road, int sole, int onDay) {
            if (!opensByMeeting(road)) {
                return true;
            }
            int needed = kindOf(road) == Kinds.NARROW ? 2 : 1;
            return timesMet(road, sole) >= needed && onDay <= lastDayOpen(road, sole);
        }

        int solesOf(int road, int onDay) {
            int soles = 0;
            for (int sole = 0; sole < people(); sole++) {
                if (opens(road, sole, onDay)) {
                    soles |= 1 << sole;
                }
            }
            return soles;
        }

        int roadsOpenTo(int person) {
            int open = 0;
            for (int road = 0; road < roads(); road++) {
                if (opens(road, soleOf(person), today())) {
                    open |= 1 << road;
                }
            }
            return open;
        }

        boolean canGo(int person, int road) {
            return isEnd(road, placeOf(person)) && opens(road, soleOf(person), today());
        }

        void goOver(int person, int road) {
            cells[PLACE_AT + person] = across(road, placeOf(person));
            if (kindOf(road) == Kinds.RIVER) {
                cells[SPENT] += longOf(road);
            } else {
                meetToday(road, soleOf(person));
            }
        }

        void swapSoles(int person, int other) {
            int sole = soleOf(person);
            cells[SOLE_AT + person] = soleOf(other);
            cells[SOLE_AT + other] = sole;
        }

        /** How many roads had met the sole. */
        int forgetSole(int sole) {
            int had = 0;
            for (int road = 0; road < roads(); road++) {
                if (timesMet(road, sole) > 0) {
                    had++;
                }
                cells[TIMES_AT + meeting(road, sole)] = 0;
            }
            return had;
        }

        void nextDay() {
            cells[DAY]++;
        }

        void giveLaw(int fade, int places) {
            cells[FADE] = fade;
            cells[PLACES] = places;
        }

        void addRoad(int kind, int one, int other, int length) {
            int road = roads();
            if (road >= MOST_ROADS) {
                return;
            }
            cells[KIND_AT + road] = kind;
            cells[ONE_END_AT + road] = one;
            cells[OTHER_END_AT + road] = other;
            cells[LONG_AT + road] = length;
            cells[ROADS]++;
        }

        void addPerson(int place, int known) {
            int person = people();
            if (person >= MOST_PEOPLE) {
                return;
            }
            cells[PLACE_AT + person] = place;
            cells[SOLE_AT + person] = person;
            cells[PEOPLE]++;
            for (int road = 0; road < roads(); road++) {
                if ((known >> road & 1) == 1 && kindOf(road) != Kinds.RIVER) {
                    meetToday(road, person);
                    meetToday(road, person);
                }
            }
        }

        private void meetToday(int road, int sole) {
            int meeting = meeting(road, sole);
            cells[TIMES_AT + meeting]++;
            cells[LAST_AT + meeting] = today();
        }

        private static int meeting(int road, int sole) {
            return road * MOST_PEOPLE + sole;
        }
    }

    /** The latest acts, each kept as the land was ahead of it. */
    private static final class Acts {
        private static final int MOST = 24;

        private final int[][] kept;
        private int next;
        private int number;

        Acts() {
            kept = new int[MOST][Land.CELLS];
            next = 0;
            number = 0;
        }

        int number() {
            return number;
        }

        void forgetAll() {
            number = 0;
        }

        void keep(Land land) {
            land.keepIn(kept[next]);
            next = (next + 1) % MOST;
            number = Math.min(number + 1, MOST);
        }

        void takeBack(Land land) {
            if (number == 0) {
                return;
            }
            next = (next + MOST - 1) % MOST;
            number--;
            land.takeFrom(kept[next]);
        }
    }

    /** The tape and the reading of a land from it, token by token. */
    private static final class Reader {
        private static final int MOST_BYTES = 120, MOST_FIGURES = 3, MOST_FADE = 30, MOST_LONG = 9, TOO_LARGE = 1000;
        private static final int END = -1, NO_TOKEN = -2, NUMBER = -3;
        private static final int CANNOT_STAND = 1, NOT_AS_TOLD = 2, NO_ROOM = 3;
        private static final int ANY = -1;

        private final int[] tape;
        private int length;
        private int at;
        private int token;
        private int value;
        private int behind;
        private int faultNumber;

        Reader() {
            tape = new int[MOST_BYTES];
            length = 0;
        }

        boolean isFull() {
            return length >= MOST_BYTES;
        }

        int length() {
            return length;
        }

        int append(int letter) {
            if (!isFull()) {
                tape[length] = letter;
                length++;
            }
            return length;
        }

        void clearTape() {
            length = 0;
        }

        int faultNumber() {
            return faultNumber;
        }

        int faultPlace() {
            return at;
        }

        boolean readInto(Land land) {
            at = 0;
            faultNumber = 0;
            land.clear();
            return readLaw(land) && readRoads(land) && readPeople(land) && readEnd();
        }

        private boolean readLaw(Land land) {
            if (!take('f') || !takeNumber(1, MOST_FADE, ANY)) {
                return false;
            }
            int fade = value;
            if (!take(',') || !takeNumber(2, Land.MOST_PLACES, ANY)) {
                return false;
            }
            land.giveLaw(fade, value);
            return take(';');
        }

        private boolean readRoads(Land land) {
            for (int k = 0; k <= Land.MOST_ROADS; k++) {
                look();
                int kind = Kinds.ofLetter(token);
                if (!Kinds.hasNumber(kind)) {
                    return true;
                }
                if (k == Land.MOST_ROADS) {
                    return refuse(NO_ROOM);
                }
                if (!take(token) || !readRoad(land, kind)) {
                    return false;
                }
            }
            return true;
        }

        private boolean readRoad(Land land, int kind) {
            int last = land.places() - 1;
            if (!takeNumber(0, last, ANY)) {
                return false;
            }
            int one = value;
            if (!take(',') || !takeNumber(0, last, one)) {
                return false;
            }
            int other = value;
            if (!take(',') || !takeNumber(1, MOST_LONG, ANY)) {
                return false;
            }
            land.addRoad(kind, one, other, value);
            return take(';');
        }

        private boolean readPeople(Land land) {
            for (int k = 0; k <= Land.MOST_PEOPLE; k++) {
                look();
                if (token != 'p') {
                    return true;
                }
                if (k == Land.MOST_PEOPLE) {
                    return refuse(NO_ROOM);
                }
                if (!take('p') || !readPerson(land)) {
                    return false;
                }
            }
            return true;
        }

        private boolean readPerson(Land land) {
            if (!takeNumber(0, land.places() - 1, ANY)) {
                return false;
            }
            int place = value;
            int allRoads = (1 << land.roads()) - 1;
            if (!take(',') || !takeNumber(0, allRoads, ANY)) {
                return false;
            }
            land.addPerson(place, value);
            return take(';');
        }

        private boolean readEnd() {
            look();
            return token == END || refuse(CANNOT_STAND);
        }

        private boolean take(int due) {
            look();
            if (token != due) {
                return refuse(CANNOT_STAND);
            }
            at = behind;
            return true;
        }

        private boolean takeNumber(int least, int most, int but) {
            look();
            if (token != NUMBER) {
                return refuse(CANNOT_STAND);
            }
            if (value < least || value > most || value == but) {
                return refuse(NOT_AS_TOLD);
            }
            at = behind;
            return true;
        }

        private boolean refuse(int number) {
            faultNumber = number;
            return false;
        }

        /** Looks at the token that begins where the reading is; letters and signs are tokens by their own byte. */
        private void look() {
            behind = at;
            value = 0;
            while (behind < length && isFigure(tape[behind])) {
                value = Math.min(value * 10 + tape[behind] - '0', TOO_LARGE);
                behind++;
            }
            int figures = behind - at;
            if (figures > 0) {
                // a longer run of figures is, as a whole, no token
                token = figures <= MOST_FIGURES ? NUMBER : NO_TOKEN;
            } else if (at >= length) {
                token = END;
            } else {
                token = isLetterOrSign(tape[at]) ? tape[at] : NO_TOKEN;
                behind = at + 1;
            }
        }

        private static boolean isFigure(int letter) {
            return letter >= '0' && letter <= '9';
        }

        private static boolean isLetterOrSign(int letter) {
            return letter >= 'a' && letter <= 'z' || letter == ',' || letter == ';';
        }
    }

    /** What is foretold of a land by what opens now. */
    private static final class Seer {
        private static final int FAR = 1000000, CLOSED = -1, INTRODUCTION = 1000;
        private static final int PLACES = Land.MOST_PLACES, ROADS = Land.MOST_ROADS;

        private final Land land;
        private final int[] ends;
        private final int[] weights;
        private final int[] far;
        private final int[] farOfOther;
        private final int[] spans;
        private final int[] wanted;
        private final int[] costs;

        Seer(Land land) {
            this.land = land;
            ends = new int[ROADS];
            weights = new int[ROADS];
            far = new int[PLACES];
            farOfOther = new int[PLACES];
            spans = new int[PLACES * PLACES];
            wanted = new int[ROADS];
            costs = new int[(1 << ROADS) * PLACES];
        }

        int reachOf(int person) {
            noteEnds();
            return flood(land.placeOf(person), land.roadsOpenTo(person));
        }

        int wayTo(int person, int place) {
            measureWays(person, far);
            return noneIfFar(far[place]);
        }

        int ledTo(int person, int other, int place) {
            weighOpen(land.roadsOpenTo(person) | land.roadsOpenTo(other));
            measure(land.placeOf(person), far);
            return noneIfFar(far[place]);
        }

        int introducedTo(int person, int place, int what) {
            weighIntroductions(land.roadsOpenTo(person));
            measure(land.placeOf(person), far);
            if (far[place] >= FAR) {
                return NONE;
            }
            return what == 0 ? far[place] / INTRODUCTION : far[place] % INTRODUCTION;
        }

        int daysUntilForgotten() {
            int soonest = FAR;
            for (int road = 0; road < land.roads(); road++) {
                if (land.opensByMeeting(road)) {
                    soonest = Math.min(soonest, daysUntilRoadForgets(road));
                }
            }
            return noneIfFar(soonest);
        }

        int roadsKnowingNobody(int daysAhead) {
            int roads = 0;
            for (int road = 0; road < land.roads(); road++) {
                if (land.opensByMeeting(road) && land.solesOf(road, land.today() + daysAhead) == 0) {
                    roads |= 1 << road;
                }
            }
            return roads;
        }

        /**
         * The walk goes over the wanted roads for the first time in some order, and between two of them by
         * the shortest way: the costs tell the least for each set of wanted roads done and the place then.
         */
        int roundOf(int person) {
            int home = land.placeOf(person);
            int open = land.roadsOpenTo(person);
            measureSpans(open);
            int wantedCount = listWanted(open);
            int all = (1 << wantedCount) - 1;
            Arrays.fill(costs, FAR);
            costs[home] = 0;
            for (int done = 0; done < all; done++) {
                for (int k = 0; k < wantedCount; k++) {
                    if ((done >> k & 1) == 0) {
                        doWanted(done, k);
                    }
                }
            }
            int best = FAR;
            for (int place = 0; place < land.places(); place++) {
                best = Math.min(best, costs[all * PLACES + place] + spans[place * PLACES + home]);
            }
            return noneIfFar(best);
        }

        /** The fewest roads, of several the least as a number: so the first of its count wins. */
        int barsAgainst(int person, int place) {
            int from = land.placeOf(person);
            int open = land.roadsOpenTo(person);
            int best = open;
            int fewest = ROADS + 1;
            noteEnds();
            for (int barred = 0; barred < 1 << land.roads(); barred++) {
                boolean canBeBetter = (barred & ~open) == 0 && Integer.bitCount(barred) < fewest;
                if (canBeBetter && !reaches(from, open & ~barred, place)) {
                    best = barred;
                    fewest = Integer.bitCount(barred);
                }
            }
            return best;
        }

        int meetingOf(int person, int other, int what) {
            measureWays(person, far);
            measureWays(other, farOfOther);
            int best = 0;
            for (int place = 1; place < land.places(); place++) {
                if (far[place] + farOfOther[place] < far[best] + farOfOther[best]) {
                    best = place;
                }
            }
            int added = far[best] + farOfOther[best];
            if (added >= FAR) {
                return NONE;
            }
            return what == 0 ? best : added;
        }

        long snowOdds(int person, int place, int c, int what) {
            int from = land.placeOf(person);
            int open = land.roadsOpenTo(person);
            int openCount = Integer.bitCount(open);
            long above = 0;
            noteEnds();
            for (int clear = 0; clear < 1 << land.roads(); clear++) {
                if ((clear & ~open) == 0 && reaches(from, clear, place)) {
                    int clearCount = Integer.bitCount(clear);
                    above += power(10 - c, clearCount) * power(c, openCount - clearCount);
                }
            }
            long below = power(10, openCount);
            long common = commonDivisor(above, below);
            if (common <= 0) {
                return NONE;
            }
            return what == 0 ? above / common : below / common;
        }

        private static int noneIfFar(int length) {
            return length >= FAR ? NONE : length;
        }

        private int daysUntilRoadForgets(int road) {
            int soonest = FAR;
            for (int sole = 0; sole < land.people(); sole++) {
                if (land.opens(road, sole, land.today())) {
                    soonest = Math.min(soonest, land.lastDayOpen(road, sole) + 1 - land.today());
                }
            }
            return soonest;
        }

        private void weighOpen(int open) {
            for (int road = 0; road < land.roads(); road++) {
                weights[road] = (open >> road & 1) == 1 ? land.longOf(road) : CLOSED;
            }
        }

        /** An introduction outweighs any length of a way, so the fewest of them come first. */
        private void weighIntroductions(int open) {
            for (int road = 0; road < land.roads(); road++) {
                weights[road] = land.longOf(road) + ((open >> road & 1) == 1 ? 0 : INTRODUCTION);
            }
        }

        private void measureWays(int person, int[] into) {
            weighOpen(land.roadsOpenTo(person));
            measure(land.placeOf(person), into);
        }

        private void measure(int from, int[] into) {
            Arrays.fill(into, FAR);
            into[from] = 0;
            boolean changed = true;
            for (int turn = 0; turn < PLACES && changed; turn++) {
                changed = false;
                for (int road = 0; road < land.roads(); road++) {
                    if (weights[road] != CLOSED) {
                        changed |= relax(road, into);
                    }
                }
            }
        }

        private boolean relax(int road, int[] into) {
            int one = land.oneEnd(road);
            int other = land.otherEnd(road);
            if (into[one] + weights[road] < into[other]) {
                into[other] = into[one] + weights[road];
                return true;
            }
            if (into[other] + weights[road] < into[one]) {
                into[one] = into[other] + weights[road];
                return true;
            }
            return false;
        }

        private void measureSpans(int open) {
            weighOpen(open);
            for (int from = 0; from < land.places(); from++) {
                measure(from, far);
                System.arraycopy(far, 0, spans, from * PLACES, PLACES);
            }
        }

        private int listWanted(int open) {
            int wantedCount = 0;
            for (int road = 0; road < land.roads(); road++) {
                if ((open >> road & 1) == 1 && land.opensByMeeting(road)) {
                    wanted[wantedCount] = road;
                    wantedCount++;
                }
            }
            return wantedCount;
        }

        private void doWanted(int done, int k) {
            int road = wanted[k];
            int then = (done | 1 << k) * PLACES;
            int one = land.oneEnd(road);
            int other = land.otherEnd(road);
            for (int place = 0; place < land.places(); place++) {
                int cost = costs[done * PLACES + place] + land.longOf(road);
                int toOther = cost + spans[place * PLACES + one];
                int toOne = cost + spans[place * PLACES + other];
                costs[then + other] = Math.min(costs[then + other], toOther);
                costs[then + one] = Math.min(costs[then + one], toOne);
            }
        }

        /** Floods come by the hundred, so the ends are told as sets of places once ahead of them. */
        private void noteEnds() {
            for (int road = 0; road < land.roads(); road++) {
                ends[road] = 1 << land.oneEnd(road) | 1 << land.otherEnd(road);
            }
        }

        private boolean reaches(int from, int usable, int place) {
            return (flood(from, usable) >> place & 1) == 1;
        }

        private int flood(int from, int usable) {
            int wet = 1 << from;
            boolean changed = true;
            for (int turn = 0; turn < PLACES && changed; turn++) {
                int before = wet;
                for (int road = 0; road < land.roads(); road++) {
                    if ((usable >> road & 1) == 1 && (wet & ends[road]) != 0) {
                        wet |= ends[road];
                    }
                }
                changed = wet != before;
            }
            return wet;
        }

        private static long power(int base, int exponent) {
            long product = 1;
            for (int k = 0; k < exponent; k++) {
                product *= base;
            }
            return product;
        }

        private static long commonDivisor(long a, long b) {
            long larger = a;
            long smaller = b;
            for (int step = 0; step < 100 && smaller != 0; step++) {
                long rest = larger % smaller;
                larger = smaller;
                smaller = rest;
            }
            return larger;
        }
    }

    /** Asks of roads, answered by bodies that leave their numbers in the trace. */
    private static final class Asker {
        private static final int SIZE = 0, MARK = 1, LENT = 0;
        private static final int MOST_TRACED = 16, DEEPEST = 30;
        private static final int[] SIZE_BODIES = {10, 11, 12, LENT, 13, 14};
        private static final int[] MARK_BODIES = {20, 21, 24, 22, 23, LENT};

        private final Land land;
        private final int[] trace;
        private int traced;

        Asker(Land land) {
            this.land = land;
            trace = new int[MOST_TRACED];
            traced = 0;
        }

        void clearTrace() {
            traced = 0;
        }

        int traced(int i) {
            return i >= 0 && i < traced ? trace[i] : NONE;
        }

        /** Bodies ask here anew, one deeper each time. */
        int answer(int road, int what, int depth) {
            return begin(bodyFor(land.kindOf(road), what), road, depth + 1);
        }

        /** The body told for the kind, else that of the nearest kind above it. */
        private static int bodyFor(int kind, int what) {
            int k = kind;
            for (int step = 0; step <= Kinds.RIVER && Kinds.hasNumber(k); step++) {
                int body = what == SIZE ? SIZE_BODIES[k] : MARK_BODIES[k];
                if (body != LENT) {
                    return body;
                }
                k = Kinds.above(k);
            }
            return what == SIZE ? 10 : 20;
        }

        private int begin(int body, int road, int depth) {
            if (depth > DEEPEST) {
                return 0;
            }
            leave(body);
            int deeper = depth + 1;
            switch (body) {
                case 10: return land.longOf(road);
                case 11: return begin(10, road, deeper) + answer(road, MARK, deeper);
                case 12: return -begin(11, road, deeper);
                case 13: return begin(10, road, deeper) - 100;
                case 14: return begin(13, road, deeper) * 2;
                case 20: return road;
                case 21: return begin(20, road, deeper) + Integer.bitCount(land.solesOf(road, land.today()));
                case 22: return begin(21, road, deeper) - 1000;
                case 23: return begin(20, road, deeper) - answer(road, SIZE, deeper);
                case 24: return begin(21, road, deeper) * 2;
                default: return 0;
            }
        }

        private void leave(int body) {
            if (traced < MOST_TRACED) {
                trace[traced] = body;
                traced++;
            }
        }
    }
}
