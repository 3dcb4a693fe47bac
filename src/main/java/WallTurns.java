/** A wall that two brothers build by turns: its text, its turns, and what may be asked of them. */
public final class WallTurns {
    public static final int NONE = -1, BAD = -2, NOT = -3, FULL = -4;

    private static final int WALL_BYTES = 63;
    private static final int TURN_BYTES = 59;
    private static final int MOST_BYTES = 63;
    private static final int MOST_COLUMNS = 8;
    private static final int MOST_STONES = 8;
    private static final int MOST_TURNS = 12;
    private static final int MOST_LAID = 3;
    private static final int MOST_PLANNED = 3;
    private static final int MOST_SEEN = 8;
    private static final int MOST_HEIGHT = 16;
    private static final int MOST_YEARS = 40;
    private static final int SIXTEENTHS = 16;
    private static final int ANY_NUMBER = -1000;
    private static final int LEAST_INT = -2147483648;
    private static final long LEAST_LONG = -9223372036854775808L;

    private final Text wallText = new Text(WALL_BYTES);
    private final Text turnText = new Text(TURN_BYTES);
    private final Rules rules = new Rules();
    private final Script script = new Script();
    private final Past past = new Past();
    private final Plans plans = new Plans();
    private final Fates fates = new Fates();
    private final Sights sights = new Sights();
    private final Sheets sheets = new Sheets();
    private int wallFault = NONE;
    private int turnFault = NONE;

    public WallTurns() {
    }

    // ---- the wall, turns

    public int type(int text, int b) {
        Text to = textOf(text);
        if (to == null || !within(b, 0, 255)) {
            return BAD;
        }
        if (to.isFull()) {
            return FULL;
        }
        to.add(b);
        settle();
        return to.size();
    }

    public int wipe(int text) {
        Text of = textOf(text);
        if (of == null) {
            return BAD;
        }
        int had = of.size();
        of.clear();
        settle();
        return had;
    }

    public int undo(int text) {
        Text of = textOf(text);
        if (of == null) {
            return BAD;
        }
        if (of.size() == 0) {
            return NOT;
        }
        of.cut();
        settle();
        return of.size();
    }

    public int fault(int text) {
        return text == 0 ? wallFault : text == 1 ? turnFault : BAD;
    }

    public int set(int what, int v) {
        if (!Rules.allows(what, v)) {
            return BAD;
        }
        int was = rules.value(what);
        rules.become(what, v);
        if (what == Rules.BEGINS) {
            past.replay(script, rules);
        }
        return was;
    }

    // ---- behind turns

    public int height(int turns, int column) {
        Wall wall = past.wallBehind(turns);
        if (wall == null || !wall.has(column)) {
            return BAD;
        }
        return wall.heightOf(column);
    }

    public int lean(int turns, int column) {
        Wall wall = past.wallBehind(turns);
        if (wall == null || !wall.has(column)) {
            return ANY_NUMBER + BAD;
        }
        return wall.leanOf(column);
    }

    public int stone(int turns, int column, int i) {
        Wall wall = past.wallBehind(turns);
        if (wall == null || !wall.has(column) || !within(i, NONE, MOST_STONES - 1)) {
            return BAD;
        }
        return i == NONE ? wall.sizeOf(column) : wall.stoneAt(column, i);
    }

    public int behind(int turns, int what) {
        Wall wall = past.wallBehind(turns);
        if (wall == null) {
            return BAD;
        }
        switch (what) {
            case 0:
                return wall.weakBits(rules);
            case 1:
                return wall.sunny(rules);
            case 2:
                return wall.weightOf(0);
            case 3:
                return wall.weightOf(1);
            default:
                return BAD;
        }
    }

    public int turn(int turn, int what) {
        if (!past.hasTurn(turn)) {
            return BAD;
        }
        switch (what) {
            case 0:
                return rules.brotherOf(turn);
            case 1:
                return past.tookIn(turn);
            case 2:
                return past.laidIn(turn);
            default:
                return BAD;
        }
    }

    public int first(int what) {
        if (!within(what, 0, 1)) {
            return BAD;
        }
        for (int turns = 0; turns <= past.turnCount(); turns++) {
            Wall wall = past.wallBehind(turns);
            int weak = wall == null ? 0 : wall.weakBits(rules);
            if (weak != 0) {
                return what == 0 ? turns : leastBit(weak);
            }
        }
        return NONE;
    }

    public int highest() {
        return past.last().highestColumn();
    }

    // ---- plans

    public int mend(int i) {
        if (!within(i, NONE, MOST_PLANNED - 1)) {
            return BAD;
        }
        plans.searchMend(past.last(), rules);
        return plans.told(i);
    }

    public int open(int pears, int i) {
        if (!within(pears, 0, MOST_COLUMNS) || !within(i, NONE, MOST_PLANNED - 1)) {
            return BAD;
        }
        plans.searchOpen(past.last(), rules, pears);
        return plans.told(i);
    }

    public int sides(int n, int what) {
        if (!within(n, 1, MOST_PLANNED) || !within(what, 0, 1)) {
            return BAD;
        }
        int worth = plans.playOn(past.last(), rules, n, rules.brotherOf(past.turnCount()));
        return what == 0 ? worth : plans.firstMove();
    }

    // ---- seen, frost, years

    public int seen(int turns, int column, int height) {
        if (!Sights.allows(turns, column, height)) {
            return BAD;
        }
        if (sights.isFull()) {
            return FULL;
        }
        sights.add(turns, column, height);
        return sights.size();
    }

    public int forget() {
        int had = sights.size();
        sights.clear();
        return had;
    }

    public int read(int s) {
        if (!Sheets.isSheet(s)) {
            return BAD;
        }
        if (sheets.isLost(s)) {
            return sheets.find(Sheets.NULL);
        }
        int came = 0;
        for (int i = 0; i + 2 < sheets.sizeOf(s) && !sights.isFull(); i += 3) {
            int turns = sheets.itemAt(s, i);
            int column = sheets.itemAt(s, i + 1);
            int height = sheets.itemAt(s, i + 2);
            if (!Sights.allows(turns, column, height)) {
                return came;
            }
            sights.add(turns, column, height);
            came++;
        }
        return came;
    }

    public int who(int what) {
        if (!within(what, Past.UNTAKEN, Past.FLIPPED)) {
            return BAD;
        }
        int bits = 0;
        for (int turn = 0; turn < past.turnCount(); turn++) {
            if (past.wouldFit(sights, script, rules, turn, what)) {
                bits |= 1 << turn;
            }
        }
        return bits;
    }

    public long frost(int c, int what) {
        if (!within(c, 0, SIXTEENTHS) || !within(what, 0, 1)) {
            return LEAST_LONG - BAD;
        }
        fates.freeze(past.last(), rules, c);
        return what == 0 ? fates.above() : fates.below();
    }

    public int years(int seed, int n, int column) {
        Wall wall = past.last();
        if (!within(n, 1, MOST_YEARS) || wall.columnCount() == 0) {
            return BAD;
        }
        if (column != NONE && !wall.has(column)) {
            return BAD;
        }
        fates.live(wall, rules, past.turnCount(), seed, n);
        return column == NONE ? fates.fallenYears() : fates.heightOf(column);
    }

    // ---- sheets

    public int sheet(int s, int form, int n) {
        if (!Sheets.isSheet(s) || !Sheets.isForm(form) || n > Sheets.MOST_ITEMS) {
            return BAD;
        }
        if (n < 0) {
            return sheets.find(Sheets.SIZE);
        }
        sheets.make(s, form, n);
        return n;
    }

    public int lose(int s) {
        if (!Sheets.isSheet(s)) {
            return BAD;
        }
        if (sheets.isLost(s)) {
            return sheets.find(Sheets.NULL);
        }
        int had = sheets.sizeOf(s);
        sheets.drop(s);
        return had;
    }

    public int lay(int s, int form, int i, int v) {
        int refusal = sheets.refusalOf(s, form, i);
        if (refusal != 0) {
            return refusal;
        }
        sheets.put(s, i, v);
        return 1;
    }

    public int get(int s, int form, int i) {
        int refusal = sheets.refusalOf(s, form, i);
        return refusal != 0 ? LEAST_INT : sheets.itemAt(s, i);
    }

    public int copy(int s, int i, int t, int j, int n) {
        if (!Sheets.isSheet(s) || !Sheets.isSheet(t)) {
            return BAD;
        }
        if (sheets.isLost(s) || sheets.isLost(t)) {
            return sheets.find(Sheets.NULL);
        }
        if (sheets.formOf(s) != sheets.formOf(t)) {
            return sheets.find(Sheets.STORE);
        }
        if (n < 0 || !sheets.holds(s, i, n) || !sheets.holds(t, j, n)) {
            return sheets.find(Sheets.INDEX);
        }
        sheets.move(s, i, t, j, n);
        return 1;
    }

    public int write(int turns, int s) {
        Wall wall = past.wallBehind(turns);
        if (wall == null || !Sheets.isSheet(s)) {
            return BAD;
        }
        if (sheets.isLost(s)) {
            return sheets.find(Sheets.NULL);
        }
        int many = Math.min(sheets.sizeOf(s), wall.columnCount());
        for (int column = 0; column < many; column++) {
            sheets.put(s, column, wall.heightOf(column));
        }
        return many;
    }

    public int count(int what) {
        switch (what) {
            case 0:
                return past.last().columnCount();
            case 1:
                return past.turnCount();
            case 2:
                return wallText.size();
            case 3:
                return turnText.size();
            case 4:
                return sights.size();
            case 5:
                return past.last().stoneCount();
            case 6:
                return past.busyTurns();
            case 7:
                return rules.value(Rules.PUSH);
            case 8:
                return sheets.latestFinding();
            default:
                return BAD;
        }
    }

    public long digest() {
        long h = 17;
        for (int what = 0; what <= 7; what++) {
            h = mix(h, count(what));
        }
        h = mix(h, fault(0));
        h = mix(h, fault(1));
        for (int column = 0; column < past.last().columnCount(); column++) {
            h = mixColumn(h, 0, column);
            h = mixColumn(h, past.turnCount(), column);
        }
        for (int turn = 0; turn < past.turnCount(); turn++) {
            for (int what = 0; what <= 2; what++) {
                h = mix(h, turn(turn, what));
            }
        }
        h = mixBehind(h, 0);
        h = mixBehind(h, past.turnCount());
        for (int column = 0; column < past.last().columnCount(); column++) {
            h = mix(h, years(7, 9, column));
        }
        return mixPlans(h);
    }

    // ---- what the calls share

    private static boolean within(int v, int least, int most) {
        return v >= least && v <= most;
    }

    /** The place of the lowest bit set, of COLUMNS as bits. */
    private static int leastBit(int bits) {
        for (int place = 0; place < MOST_COLUMNS; place++) {
            if ((bits >> place & 1) == 1) {
                return place;
            }
        }
        return NONE;
    }

    private Text textOf(int text) {
        return text == 0 ? wallText : text == 1 ? turnText : null;
    }

    /** Reads both texts anew and does all turns, so that every question finds them done. */
    private void settle() {
        wallFault = past.start().parse(wallText);
        turnFault = script.parse(turnText);
        past.replay(script, rules);
    }

    private static long mix(long h, long v) {
        return 31 * h + v;
    }

    private long mixColumn(long h, int turns, int column) {
        long mixed = mix(h, height(turns, column));
        mixed = mix(mixed, lean(turns, column));
        mixed = mix(mixed, stone(turns, column, NONE));
        return mix(mixed, stone(turns, column, 0));
    }

    private long mixBehind(long h, int turns) {
        long mixed = h;
        for (int what = 0; what <= 3; what++) {
            mixed = mix(mixed, behind(turns, what));
        }
        return mixed;
    }

    private long mixPlans(long h) {
        long mixed = mix(h, first(0));
        mixed = mix(mixed, first(1));
        mixed = mix(mixed, highest());
        mixed = mix(mixed, mend(NONE));
        mixed = mix(mixed, mend(0));
        mixed = mix(mixed, open(3, NONE));
        mixed = mix(mixed, open(3, 0));
        mixed = mix(mixed, sides(2, 0));
        mixed = mix(mixed, sides(2, 1));
        for (int what = 0; what <= 2; what++) {
            mixed = mix(mixed, who(what));
        }
        mixed = mix(mixed, frost(5, 0));
        mixed = mix(mixed, frost(5, 1));
        return mix(mixed, years(7, 9, NONE));
    }

    /** The stones as numbers, 0 n, 1 s, 2 N, 3 S, so that whose and how large are bits of them. */
    private static final class Stones {
        static int ofLetter(int b) {
            switch (b) {
                case 'n':
                    return 0;
                case 's':
                    return 1;
                case 'N':
                    return 2;
                case 'S':
                    return 3;
                default:
                    return NONE;
            }
        }

        static int columnOf(int b) {
            return b >= '0' && b <= '7' ? b - '0' : NONE;
        }

        static int ownerOf(int stone) {
            return stone & 1;
        }

        static int weightOf(int stone) {
            return stone >= 2 ? 2 : 1;
        }

        static int pullOf(int stone) {
            int weight = stone >= 2 ? 2 : 1;
            return (stone & 1) == 0 ? weight : -weight;
        }
    }

    /** Bytes, one behind the other, up to a limit. */
    private static final class Text {
        private final int[] bytes = new int[MOST_BYTES];
        private final int limit;
        private int length = 0;

        Text(int limit) {
            this.limit = Math.min(limit, MOST_BYTES);
        }

        int size() {
            return length;
        }

        boolean isFull() {
            return length >= limit;
        }

        void add(int b) {
            if (length >= 0 && length < limit) {
                bytes[length] = b;
                length++;
            }
        }

        void cut() {
            if (length > 0) {
                length--;
            }
        }

        void clear() {
            length = 0;
        }

        int byteAt(int i) {
            return i >= 0 && i < length ? bytes[i] : NONE;
        }
    }

    /** What may be set, each within 0 and its most. */
    private static final class Rules {
        static final int BEGINS = 0, BOND = 1, PUSH = 2, BEARS = 3, LOW = 4, PEARS = 5;

        private static final int[] MOST = {1, 16, 9, 16, 16, 255};

        private final int[] values = {0, 3, 0, 6, 4, 255};

        static boolean allows(int what, int v) {
            return what >= 0 && what < MOST.length && v >= 0 && v <= MOST[what];
        }

        int value(int what) {
            return what >= 0 && what < values.length ? values[what] : 0;
        }

        void become(int what, int v) {
            if (allows(what, v) && what < values.length) {
                values[what] = v;
            }
        }

        int brotherOf(int turn) {
            return (value(BEGINS) + turn) & 1;
        }

        int mostAbove() {
            return values[BOND] - values[PUSH];
        }

        boolean wantsSun(int column) {
            return (value(PEARS) >> column & 1) == 1;
        }
    }

    /** Columns of stones; heights and leans are kept beside them, since searches ask for them at every step. */
    private static final class Wall {
        private final int[] stones = new int[MOST_COLUMNS * MOST_STONES];
        private final int[] sizes = new int[MOST_COLUMNS];
        private final int[] heights = new int[MOST_COLUMNS];
        private final int[] leans = new int[MOST_COLUMNS];
        private int columns = 0;

        /** Becomes the wall that a text tells; the fault of the text. */
        int parse(Text text) {
            raze();
            if (text.size() > 0) {
                columns = 1;
            }
            for (int i = 0; i < text.size(); i++) {
                if (!grow(text.byteAt(i))) {
                    raze();
                    return i;
                }
            }
            return NONE;
        }

        private boolean grow(int b) {
            if (b == ';') {
                if (columns >= MOST_COLUMNS) {
                    return false;
                }
                columns++;
                return true;
            }
            int stone = Stones.ofLetter(b);
            return stone != NONE && put(columns - 1, stone);
        }

        private void raze() {
            columns = 0;
            for (int column = 0; column < MOST_COLUMNS; column++) {
                sizes[column] = 0;
                heights[column] = 0;
                leans[column] = 0;
            }
        }

        void become(Wall other) {
            columns = other.columns;
            System.arraycopy(other.stones, 0, stones, 0, MOST_COLUMNS * MOST_STONES);
            System.arraycopy(other.sizes, 0, sizes, 0, MOST_COLUMNS);
            System.arraycopy(other.heights, 0, heights, 0, MOST_COLUMNS);
            System.arraycopy(other.leans, 0, leans, 0, MOST_COLUMNS);
        }

        boolean has(int column) {
            return column >= 0 && column < columns && column < MOST_COLUMNS;
        }

        int columnCount() {
            return columns;
        }

        int sizeOf(int column) {
            return has(column) ? sizes[column] : 0;
        }

        int heightOf(int column) {
            return column >= 0 && column < columns && column < MOST_COLUMNS ? heights[column] : 0;
        }

        int leanOf(int column) {
            return column >= 0 && column < columns && column < MOST_COLUMNS ? leans[column] : 0;
        }

        int stoneAt(int column, int i) {
            return i >= 0 && i < sizeOf(column) && i < MOST_STONES ? stones[column * MOST_STONES + i] : NONE;
        }

        int uppermost(int column) {
            if (column < 0 || column >= columns || column >= MOST_COLUMNS) {
                return NONE;
            }
            int top = sizes[column] - 1;
            return top >= 0 && top < MOST_STONES ? stones[column * MOST_STONES + top] : NONE;
        }

        /** Lays a stone on a column; whether there is that column, and room. */
        boolean put(int column, int stone) {
            if (!has(column) || sizes[column] >= MOST_STONES || sizes[column] < 0) {
                return false;
            }
            stones[column * MOST_STONES + sizes[column]] = stone;
            sizes[column]++;
            heights[column] += Stones.weightOf(stone);
            leans[column] += Stones.pullOf(stone);
            return true;
        }

        /** Takes the uppermost stone of a column: that stone, or NONE. */
        int take(int column) {
            int stone = uppermost(column);
            if (stone != NONE) {
                sizes[column]--;
                heights[column] -= Stones.weightOf(stone);
                leans[column] -= Stones.pullOf(stone);
            }
            return stone;
        }

        /** Takes it if it is the other brother's; whether it was. */
        boolean takeFromOther(int column, int brother) {
            int stone = uppermost(column);
            if (stone == NONE || Stones.ownerOf(stone) == brother) {
                return false;
            }
            take(column);
            return true;
        }

        private boolean isWeak(int column, int mostAbove, int bears) {
            int beside = Math.max(heightOf(column - 1), heightOf(column + 1));
            return heightOf(column) - beside > mostAbove || Math.abs(leanOf(column)) > bears;
        }

        boolean stands(Rules rules) {
            int mostAbove = rules.mostAbove();
            int bears = rules.value(Rules.BEARS);
            for (int column = 0; column < columns; column++) {
                if (isWeak(column, mostAbove, bears)) {
                    return false;
                }
            }
            return true;
        }

        int weakBits(Rules rules) {
            int mostAbove = rules.mostAbove();
            int bears = rules.value(Rules.BEARS);
            int bits = 0;
            for (int column = 0; column < columns; column++) {
                if (isWeak(column, mostAbove, bears)) {
                    bits |= 1 << column;
                }
            }
            return bits;
        }

        /** How many of the pears have sun. */
        int sunny(Rules rules) {
            int low = rules.value(Rules.LOW);
            int many = 0;
            for (int column = 0; column < columns; column++) {
                if (rules.wantsSun(column) && heightOf(column) <= low) {
                    many++;
                }
            }
            return many;
        }

        int weightOf(int brother) {
            int weight = 0;
            for (int column = 0; column < columns; column++) {
                // height is both weights together, lean is their difference
                int twice = brother == 0 ? heightOf(column) + leanOf(column) : heightOf(column) - leanOf(column);
                weight += twice / 2;
            }
            return weight;
        }

        int stoneCount() {
            int many = 0;
            for (int column = 0; column < columns; column++) {
                many += sizeOf(column);
            }
            return many;
        }

        int highestColumn() {
            int best = columns > 0 ? 0 : NONE;
            for (int column = 1; column < columns; column++) {
                if (heightOf(column) > heightOf(best)) {
                    best = column;
                }
            }
            return best;
        }
    }

    /** The turns as their text tells them. */
    private static final class Script {
        private static final int STUCK = 0, TURN = 1, AFTER_DASH = 2, AFTER_TAKE = 3, AFTER_LETTER = 4, AFTER_LAID = 5;

        private final int[] takes = new int[MOST_TURNS];
        private final int[] lays = new int[MOST_TURNS];
        private final int[] stones = new int[MOST_TURNS * MOST_LAID];
        private final int[] places = new int[MOST_TURNS * MOST_LAID];
        private int turns = 0;

        int turnCount() {
            return turns;
        }

        /** Becomes the turns that a text tells; the fault of the text. */
        int parse(Text text) {
            turns = 0;
            int state = TURN;
            for (int i = 0; i < text.size(); i++) {
                state = stateBehind(state, text.byteAt(i));
                if (state == STUCK) {
                    turns = 0;
                    return i;
                }
            }
            if (text.size() > 0 && state != AFTER_LAID) {
                turns = 0;
                return text.size();
            }
            return NONE;
        }

        private int stateBehind(int state, int b) {
            switch (state) {
                case TURN:
                    if (!beginTurn()) {
                        return STUCK;
                    }
                    return b == '-' ? AFTER_DASH : tellLetter(turns - 1, b);
                case AFTER_DASH:
                    return tellTake(turns - 1, b);
                case AFTER_TAKE:
                    return tellLetter(turns - 1, b);
                case AFTER_LETTER:
                    return tellPlace(turns - 1, b);
                case AFTER_LAID:
                    return b == ';' ? TURN : tellLetter(turns - 1, b);
                default:
                    return STUCK;
            }
        }

        private boolean beginTurn() {
            if (turns < 0 || turns >= MOST_TURNS) {
                return false;
            }
            takes[turns] = NONE;
            lays[turns] = 0;
            turns++;
            return true;
        }

        private int tellTake(int turn, int b) {
            int column = Stones.columnOf(b);
            if (!isTurn(turn) || column == NONE) {
                return STUCK;
            }
            takes[turn] = column;
            return AFTER_TAKE;
        }

        private int tellLetter(int turn, int b) {
            int stone = Stones.ofLetter(b);
            int next = nextPart(turn);
            if (stone == NONE || next == NONE) {
                return STUCK;
            }
            stones[next] = stone;
            return AFTER_LETTER;
        }

        private int tellPlace(int turn, int b) {
            int column = Stones.columnOf(b);
            int next = nextPart(turn);
            if (column == NONE || next == NONE) {
                return STUCK;
            }
            places[next] = column;
            lays[turn]++;
            return AFTER_LAID;
        }

        private boolean isTurn(int turn) {
            return turn >= 0 && turn < turns && turn < MOST_TURNS;
        }

        /** Where the next stone that a turn lays is kept; NONE where it lays no more. */
        private int nextPart(int turn) {
            if (!isTurn(turn) || lays[turn] < 0 || lays[turn] >= MOST_LAID) {
                return NONE;
            }
            return turn * MOST_LAID + lays[turn];
        }

        /** A brother takes what a turn tells; how many that were. */
        int doTake(int turn, int brother, Wall wall) {
            return isTurn(turn) && wall.takeFromOther(takes[turn], brother) ? 1 : 0;
        }

        /** A brother lays what a turn tells; how many that were. */
        int doLays(int turn, int brother, Wall wall) {
            if (!isTurn(turn)) {
                return 0;
            }
            int done = 0;
            for (int k = 0; k < lays[turn] && k < MOST_LAID; k++) {
                int stone = stones[turn * MOST_LAID + k];
                if (Stones.ownerOf(stone) == brother && wall.put(places[turn * MOST_LAID + k], stone)) {
                    done++;
                }
            }
            return done;
        }
    }

    /** The wall behind each number of turns, what each turn did, and what would be without some of it. */
    private static final class Past {
        static final int UNTAKEN = 0, UNLAID = 1, FLIPPED = 2;

        private static final int UNCHANGED = -1;

        private final Wall[] walls = new Wall[MOST_TURNS + 1];
        private final int[] took = new int[MOST_TURNS];
        private final int[] laid = new int[MOST_TURNS];
        private final Wall other = new Wall();
        private int turns = 0;

        Past() {
            for (int i = 0; i <= MOST_TURNS; i++) {
                walls[i] = new Wall();
            }
        }

        Wall start() {
            return walls[0];
        }

        Wall last() {
            return walls[Math.max(0, Math.min(turns, MOST_TURNS))];
        }

        int turnCount() {
            return turns;
        }

        boolean hasTurn(int turn) {
            return turn >= 0 && turn < turns && turn < MOST_TURNS;
        }

        Wall wallBehind(int many) {
            return many >= 0 && many <= turns && many <= MOST_TURNS ? walls[many] : null;
        }

        int tookIn(int turn) {
            return hasTurn(turn) ? took[turn] : 0;
        }

        int laidIn(int turn) {
            return hasTurn(turn) ? laid[turn] : 0;
        }

        int busyTurns() {
            int many = 0;
            for (int turn = 0; turn < turns; turn++) {
                if (tookIn(turn) + laidIn(turn) > 0) {
                    many++;
                }
            }
            return many;
        }

        /** Does all turns, from the wall at the start on. */
        void replay(Script script, Rules rules) {
            turns = Math.min(script.turnCount(), MOST_TURNS);
            for (int turn = 0; turn < turns && turn < MOST_TURNS; turn++) {
                Wall wall = walls[turn + 1];
                wall.become(walls[turn]);
                int brother = rules.brotherOf(turn);
                took[turn] = script.doTake(turn, brother, wall);
                laid[turn] = script.doLays(turn, brother, wall);
            }
        }

        /** Whether all that was seen comes out so, had one turn been otherwise. */
        boolean wouldFit(Sights sights, Script script, Rules rules, int odd, int how) {
            if (sights.looksBeyond(turns)) {
                return false;
            }
            other.become(walls[0]);
            boolean fits = sights.fit(0, other);
            for (int turn = 0; turn < turns && fits; turn++) {
                int change = turn == odd ? how : UNCHANGED;
                int brother = rules.brotherOf(change == FLIPPED ? turn + 1 : turn);
                if (change != UNTAKEN) {
                    script.doTake(turn, brother, other);
                }
                if (change != UNLAID) {
                    script.doLays(turn, brother, other);
                }
                fits = sights.fit(turn + 1, other);
            }
            return fits;
        }
    }

    /** How high columns were seen. */
    private static final class Sights {
        private final int[] turnsBehind = new int[MOST_SEEN];
        private final int[] columns = new int[MOST_SEEN];
        private final int[] heights = new int[MOST_SEEN];
        private int many = 0;

        static boolean allows(int turns, int column, int high) {
            return within(turns, 0, MOST_TURNS) && within(column, 0, MOST_COLUMNS - 1) && within(high, 0, MOST_HEIGHT);
        }

        int size() {
            return many;
        }

        boolean isFull() {
            return many >= MOST_SEEN;
        }

        void add(int turns, int column, int high) {
            if (many >= 0 && many < MOST_SEEN) {
                turnsBehind[many] = turns;
                columns[many] = column;
                heights[many] = high;
                many++;
            }
        }

        void clear() {
            many = 0;
        }

        /** Whether anything was seen behind more turns than there are. */
        boolean looksBeyond(int turns) {
            for (int i = 0; i < many && i < MOST_SEEN; i++) {
                if (turnsBehind[i] > turns) {
                    return true;
                }
            }
            return false;
        }

        /** Whether all that was seen behind so many turns is so of this wall. */
        boolean fit(int turns, Wall wall) {
            for (int i = 0; i < many && i < MOST_SEEN; i++) {
                if (turnsBehind[i] == turns && !isSo(i, wall)) {
                    return false;
                }
            }
            return true;
        }

        private boolean isSo(int i, Wall wall) {
            return wall.has(columns[i]) && wall.heightOf(columns[i]) == heights[i];
        }
    }

    /** Searches by laying and taking on a wall of its own, each step undone behind itself. */
    private static final class Plans {
        private static final int NOWHERE = 8;

        private final Wall wall = new Wall();
        private final int[] row = new int[MOST_PLANNED];
        private final int[] moves = new int[MOST_PLANNED + 1];
        private int needed = NONE;
        private int firstMove = NONE;

        /** Of the row last searched for: how many (NONE), the i-th, or NONE. */
        int told(int i) {
            if (i == NONE) {
                return needed;
            }
            return i >= 0 && i < needed && i < MOST_PLANNED ? row[i] : NONE;
        }

        void searchMend(Wall from, Rules rules) {
            wall.become(from);
            needed = NONE;
            for (int goal = 0; goal <= MOST_PLANNED && needed == NONE; goal++) {
                if (canMend(wall, rules, row, 0, goal)) {
                    needed = goal;
                }
            }
        }

        /** Whether a row of so many, as far as it is told already, can be ended so that the wall stands. */
        private static boolean canMend(Wall wall, Rules rules, int[] row, int at, int goal) {
            if (at < 0 || at >= goal || at >= row.length) {
                return wall.stands(rules);
            }
            for (int number = leastAt(row, at); number < 2 * MOST_COLUMNS; number++) {
                int column = number % MOST_COLUMNS;
                if (wall.put(column, number / MOST_COLUMNS)) {
                    row[at] = number;
                    boolean stands = canMend(wall, rules, row, at + 1, goal);
                    wall.take(column);
                    if (stands) {
                        return true;
                    }
                }
            }
            return false;
        }

        void searchOpen(Wall from, Rules rules, int pears) {
            wall.become(from);
            needed = NONE;
            for (int goal = 0; goal <= MOST_PLANNED && needed == NONE; goal++) {
                if (canOpen(wall, rules, pears, row, 0, goal)) {
                    needed = goal;
                }
            }
        }

        private static boolean canOpen(Wall wall, Rules rules, int pears, int[] row, int at, int goal) {
            if (at < 0 || at >= goal || at >= row.length) {
                return wall.sunny(rules) >= pears && wall.stands(rules);
            }
            for (int column = leastAt(row, at); column < wall.columnCount(); column++) {
                int stone = wall.take(column);
                if (stone != NONE) {
                    row[at] = column;
                    boolean isOpen = canOpen(wall, rules, pears, row, at + 1, goal);
                    wall.put(column, stone);
                    if (isOpen) {
                        return true;
                    }
                }
            }
            return false;
        }

        /** A row never falls, so that of like rows only the least is looked at. */
        private static int leastAt(int[] row, int at) {
            return at >= 1 && at <= row.length ? row[at - 1] : 0;
        }

        /** What the pears come to when both brothers do their best for so many turns. */
        int playOn(Wall from, Rules rules, int turns, int brother) {
            wall.become(from);
            int left = Math.min(turns, MOST_PLANNED);
            int worth = bestWorth(wall, rules, moves, left, brother);
            firstMove = left >= 0 && left < moves.length ? moves[left] : NONE;
            return worth;
        }

        /** What the one who begins does in the play last looked at. */
        int firstMove() {
            return firstMove;
        }

        private static int bestWorth(Wall wall, Rules rules, int[] moves, int left, int brother) {
            if (left <= 0 || left >= moves.length) {
                return wall.stands(rules) ? wall.sunny(rules) : -1;
            }
            int best = 0;
            int by = NONE;
            for (int move = 0; move <= NOWHERE; move++) {
                if (move == NOWHERE || wall.put(move, brother)) {
                    int worth = bestWorth(wall, rules, moves, left - 1, 1 - brother);
                    if (move != NOWHERE) {
                        wall.take(move);
                    }
                    if (by == NONE || isBetter(worth, best, brother)) {
                        best = worth;
                        by = move;
                    }
                }
            }
            moves[left] = by;
            return best;
        }

        private static boolean isBetter(int worth, int best, int brother) {
            return brother == 0 ? worth > best : worth < best;
        }
    }

    /** What chance makes of the wall: frost, and years by a seed. */
    private static final class Fates {
        private final Wall wall = new Wall();
        private long above = 0;
        private long below = 1;
        private int seed = 0;
        private int fallen = 0;

        long above() {
            return above;
        }

        long below() {
            return below;
        }

        void freeze(Wall from, Rules rules, int c) {
            wall.become(from);
            above = standing(wall, rules, c, 0);
            below = 1;
            for (int column = 0; column < wall.columnCount(); column++) {
                if (wall.sizeOf(column) > 0) {
                    below *= SIXTEENTHS;
                }
            }
            shorten();
        }

        /** The ways to stand, of 16 for each column with stones from this one on. */
        private static long standing(Wall wall, Rules rules, int c, int column) {
            if (column >= wall.columnCount() || column >= MOST_COLUMNS) {
                return wall.stands(rules) ? 1 : 0;
            }
            if (wall.sizeOf(column) == 0) {
                return standing(wall, rules, c, column + 1);
            }
            long ways = c < SIXTEENTHS ? (SIXTEENTHS - c) * standing(wall, rules, c, column + 1) : 0;
            if (c > 0) {
                int stone = wall.take(column);
                ways += c * standing(wall, rules, c, column + 1);
                wall.put(column, stone);
            }
            return ways;
        }

        /** In lowest terms: what is below is a power of two, 32 halvings at most. */
        private void shorten() {
            for (int i = 0; i < 32 && below > 1 && (above & 1) == 0; i++) {
                above >>= 1;
                below >>= 1;
            }
        }

        int fallenYears() {
            return fallen;
        }

        int heightOf(int column) {
            return wall.heightOf(column);
        }

        void live(Wall from, Rules rules, int turns, int firstSeed, int years) {
            wall.become(from);
            seed = firstSeed;
            fallen = 0;
            for (int year = 0; year < years && year < MOST_YEARS; year++) {
                passYear(rules.brotherOf(turns + year));
                if (!wall.stands(rules)) {
                    fallen++;
                }
            }
        }

        private void passYear(int brother) {
            int column = lot(wall.columnCount());
            if (lot(4) == 0) {
                wall.takeFromOther(column, brother);
            } else {
                wall.put(column, brother);
            }
        }

        private int lot(int m) {
            seed = 1103515245 * seed + 12345;
            return m > 0 ? (seed >>> 16) % m : 0;
        }
    }

    /** Four rows of numbers, each lost or of a form, and the latest finding about them. */
    private static final class Sheets {
        static final int NULL = 1, INDEX = 2, CAST = 3, STORE = 4, SIZE = 5;
        static final int MOST_ITEMS = 60;

        private static final int MANY = 4;
        private static final int BYTES = 0, SHORTS = 1, INTS = 2;
        private static final int LOST = -1;

        private final int[][] items = new int[MANY][MOST_ITEMS];
        private final int[] forms = new int[MANY];
        private final int[] sizes = {LOST, LOST, LOST, LOST};
        private int finding = 0;

        static boolean isSheet(int s) {
            return s >= 0 && s < MANY;
        }

        static boolean isForm(int form) {
            return form >= BYTES && form <= INTS;
        }

        /** Keeps a finding, and tells it as calls answer it. */
        int find(int number) {
            finding = number;
            return -10 - number;
        }

        int latestFinding() {
            return finding;
        }

        boolean isLost(int s) {
            return !isSheet(s) || sizes[s] == LOST;
        }

        int sizeOf(int s) {
            return isLost(s) ? 0 : sizes[s];
        }

        int formOf(int s) {
            return isSheet(s) ? forms[s] : NONE;
        }

        void make(int s, int form, int n) {
            if (!isSheet(s) || !isForm(form) || n < 0 || n > MOST_ITEMS) {
                return;
            }
            forms[s] = form;
            sizes[s] = n;
            for (int i = 0; i < MOST_ITEMS; i++) {
                items[s][i] = 0;
            }
        }

        void drop(int s) {
            if (isSheet(s)) {
                sizes[s] = LOST;
            }
        }

        /** Why an item cannot be had: a refusal, or 0. */
        int refusalOf(int s, int form, int i) {
            if (!isSheet(s) || !isForm(form)) {
                return BAD;
            }
            if (isLost(s)) {
                return find(NULL);
            }
            if (forms[s] != form) {
                return find(CAST);
            }
            return isItem(s, i) ? 0 : find(INDEX);
        }

        private boolean isItem(int s, int i) {
            return i >= 0 && i < sizeOf(s) && i < MOST_ITEMS;
        }

        int itemAt(int s, int i) {
            return isItem(s, i) ? items[s][i] : 0;
        }

        void put(int s, int i, int v) {
            if (isItem(s, i)) {
                items[s][i] = asForm(forms[s], v);
            }
        }

        private static int asForm(int form, int v) {
            return form == BYTES ? (byte) v : form == SHORTS ? (short) v : v;
        }

        /** Whether n items from i on are there. */
        boolean holds(int s, int i, int n) {
            return i >= 0 && n >= 0 && n <= MOST_ITEMS && i <= sizeOf(s) - n;
        }

        void move(int s, int i, int t, int j, int n) {
            if (isSheet(s) && isSheet(t) && holds(s, i, n) && holds(t, j, n)) {
                System.arraycopy(items[s], i, items[t], j, n);
            }
        }
    }
}
