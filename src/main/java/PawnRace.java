import java.util.Arrays;

/**
 * Pawns that race over a board with walls; ../shared/DOC.md says what each method promises.
 *
 * All arrays are made once, by the constructors, because the calls of a run share one small room.
 */
public final class PawnRace {
    public static final int NONE = -1;

    private static final int NORTH = 0;
    private static final int EAST = 1;
    private static final int SOUTH = 2;
    private static final int WEST = 3;
    private static final int DIRECTIONS = 4;
    /** A direction with this bit turned is the opposite one. */
    private static final int OPPOSITE = 2;
    /** By direction: how far the number of the next cell is from the number of a cell. */
    private static final int[] OFFSETS = {9, 1, -9, -1};

    private static final int LEVEL = 0;
    private static final int UPRIGHT = 1;

    private static final int MOST_PAWNS = 4;
    private static final int MOST_BANS = 12;
    private static final int MOST_BLOCKS = 40;
    private static final int MOST_WALLS = 20;
    private static final int MOST_TURNS = 200;
    private static final int MOST_STEPS = 200;
    private static final int MOST_UNDONE = 6;
    private static final int MOST_PLAYED = 99;
    private static final int MODES = 2;
    private static final int USUAL_WIDTH = 5;
    private static final int USUAL_WALLS = 5;

    /** Rows of cells lie this far apart, whatever the width of the board is. */
    private static final int ROW = 9;
    private static final int CELLS = 81;
    private static final int PLACE_ROW = 8;
    private static final int PLACES = 64;

    private static final int TEXT_BYTES = 700;
    private static final int REPORT_BYTES = 9 * 10 + 3 * PLACES + 1;
    private static final int MODULUS = 1000003;

    private final Tokens tokens;
    private final RaceReader reader;
    private final Script script;
    private final Planner planner;
    private final Ways ways;
    private final BanWays banWays;
    private final Race race;
    private final Race draft;
    private final Race preview;
    private final Race saved;
    private boolean isSaved;
    private final History history;
    private final byte[] reported;
    private int reportedBytes;

    public PawnRace() {
        tokens = new Tokens();
        planner = new Planner();
        ways = new Ways();
        banWays = new BanWays();
        race = new Race();
        draft = new Race();
        reader = new RaceReader(tokens, draft, planner);
        script = new Script(tokens);
        preview = new Race();
        saved = new Race();
        isSaved = false;
        history = new History();
        reported = new byte[REPORT_BYTES];
        reportedBytes = 0;
    }

    // ---- texts

    public int feed(int a, int b, int c, int d, int e) throws IllegalStateException {
        if (tokens.length + 20 > TEXT_BYTES) {
            throw new IllegalStateException("the buffer is full");
        }
        tokens.append(a);
        tokens.append(b);
        tokens.append(c);
        tokens.append(d);
        tokens.append(e);
        return tokens.length;
    }

    public int truncate(int n) throws IllegalArgumentException {
        if (n < 0 || n > tokens.length) {
            throw new IllegalArgumentException("no such length");
        }
        tokens.length = n;
        return n;
    }

    public int readText() throws IllegalArgumentException {
        boolean good = reader.readRace();
        tokens.length = 0;
        if (!good) {
            throw new IllegalArgumentException("the text has an error");
        }
        race.copyFrom(draft);
        history.forget();
        return race.count;
    }

    public int runScript() throws IllegalArgumentException {
        boolean good = script.readCommands();
        tokens.length = 0;
        if (!good) {
            throw new IllegalArgumentException("the script has an error");
        }
        history.keep(race);
        return script.run(race, planner);
    }

    public int errorCode() {
        return tokens.errorCode;
    }

    public int errorPosition() {
        return tokens.errorPosition;
    }

    // ---- the race

    public int setting(int what) throws IllegalArgumentException {
        switch (what) {
            case 0: return race.board.width;
            case 1: return race.board.height;
            case 2: return race.count;
            case 3: return race.board.walls;
            case 4: return race.turns;
            case 5: return race.finished;
            case 6: return race.banCount;
            default: throw new IllegalArgumentException("no such setting");
        }
    }

    public int pawn(int pawn, int what) throws IndexOutOfBoundsException, IllegalArgumentException {
        checkPawn(pawn);
        Pawn asked = race.pawns[pawn];
        switch (what) {
            case 0: return asked.cell % ROW;
            case 1: return asked.cell / ROW;
            case 2: return asked.side;
            case 3: return asked.walls;
            case 4: return asked.made;
            case 5: return asked.latest;
            case 6: return asked.rank;
            case 7: return race.bansOf(pawn);
            default: throw new IllegalArgumentException("no such number of a pawn");
        }
    }

    public int turnOf() {
        return race.mover();
    }

    public boolean isOver() {
        return race.hasEnded();
    }

    public int pawnAt(int x, int y) throws IndexOutOfBoundsException {
        checkCell(x, y);
        return race.pawnOn(y * ROW + x);
    }

    public int ranked(int rank) {
        return race.pawnOfRank(rank);
    }

    // ---- walls

    public int wallAt(int x, int y) throws IndexOutOfBoundsException {
        checkPlace(x, y);
        return race.board.wallOn(x, y);
    }

    public boolean isBlocked(int x, int y, int direction)
            throws IndexOutOfBoundsException, IllegalArgumentException {
        checkCell(x, y);
        checkDirection(direction);
        return race.board.behind(y * ROW + x, direction) == NONE;
    }

    public boolean isAdmissible(int x, int y, boolean upright) throws IndexOutOfBoundsException {
        checkPlace(x, y);
        return planner.admitsNow(race, x, y, upright ? UPRIGHT : LEVEL);
    }

    public int admissible() {
        return planner.countAdmitted(race);
    }

    public int regions() {
        return ways.countRegions(race.board);
    }

    // ---- steps

    public boolean canStep(int pawn, int direction) throws IndexOutOfBoundsException, IllegalArgumentException {
        checkPawn(pawn);
        checkDirection(direction);
        return race.landing(pawn, direction) != NONE;
    }

    public boolean isBanned(int pawn, int direction) throws IndexOutOfBoundsException, IllegalArgumentException {
        checkPawn(pawn);
        checkDirection(direction);
        return (race.bannedNow(pawn) >> direction & 1) != 0;
    }

    public int steps(int pawn) throws IndexOutOfBoundsException {
        checkPawn(pawn);
        return race.stepMask(pawn);
    }

    // ---- ways

    public int distance(int pawn) throws IndexOutOfBoundsException {
        checkPawn(pawn);
        return ways.measure(race.board, race.pawns[pawn]);
    }

    public int distanceFrom(int pawn, int x, int y) throws IndexOutOfBoundsException {
        checkPawn(pawn);
        checkCell(x, y);
        int cell = y * ROW + x;
        return ways.spread(race.board, race.pawns[pawn].side, NONE, cell);
    }

    public int ways(int pawn) throws IndexOutOfBoundsException {
        checkPawn(pawn);
        return ways.countWays(race.board, race.pawns[pawn]);
    }

    public int onWays(int pawn) throws IndexOutOfBoundsException {
        checkPawn(pawn);
        return ways.countCellsOnWays(race.board, race.pawns[pawn]);
    }

    public int gates(int pawn) throws IndexOutOfBoundsException {
        checkPawn(pawn);
        return ways.countGates(race.board, race.pawns[pawn]);
    }

    public boolean isGate(int pawn, int x, int y) throws IndexOutOfBoundsException {
        checkPawn(pawn);
        checkCell(x, y);
        return ways.closesAt(race.board, race.pawns[pawn], y * ROW + x);
    }

    public int stepsWithBans(int pawn) throws IndexOutOfBoundsException {
        checkPawn(pawn);
        return banWays.leastSteps(race, pawn);
    }

    public int waysWithBans(int pawn, int n) throws IndexOutOfBoundsException, IllegalArgumentException {
        checkPawn(pawn);
        if (n < 0 || n > MOST_STEPS) {
            throw new IllegalArgumentException("no such number of steps");
        }
        return banWays.countWays(race, pawn, n);
    }

    public int detour(int pawn) throws IndexOutOfBoundsException {
        checkPawn(pawn);
        int least = banWays.leastSteps(race, pawn);
        return least == NONE ? NONE : least - ways.measure(race.board, race.pawns[pawn]);
    }

    public int leader() {
        return planner.nearest(race, NONE);
    }

    // ---- advice

    public int advised(int pawn) throws IndexOutOfBoundsException {
        checkPawn(pawn);
        return planner.advise(race, pawn);
    }

    public int bestWall(int pawn) throws IndexOutOfBoundsException {
        checkPawn(pawn);
        if (!planner.findBest(race, pawn)) {
            return NONE;
        }
        return 100 * planner.bestWay + 10 * planner.bestY + planner.bestX;
    }

    public int gain(int pawn) throws IndexOutOfBoundsException {
        checkPawn(pawn);
        return planner.findBest(race, pawn) ? planner.bestGain : NONE;
    }

    public int harm(int pawn, int x, int y, boolean upright)
            throws IndexOutOfBoundsException, IllegalStateException {
        checkPawn(pawn);
        checkPlace(x, y);
        int way = upright ? UPRIGHT : LEVEL;
        if (!planner.admitsNow(race, x, y, way)) {
            throw new IllegalStateException("the wall is not admissible");
        }
        return planner.loss(race, pawn, x, y, way);
    }

    public int foreseen(int mode, int turns, int pawn) throws IndexOutOfBoundsException, IllegalArgumentException {
        checkPawn(pawn);
        checkPlay(mode, turns);
        preview.copyFrom(race);
        planner.playTurns(preview, mode, turns);
        return preview.pawns[pawn].rank;
    }

    // ---- turns

    public int step(int direction) throws IllegalArgumentException, IllegalStateException {
        checkDirection(direction);
        if (!race.mayMove(direction)) {
            throw new IllegalStateException("no such step now");
        }
        history.keep(race);
        Pawn mover = race.pawns[race.turn];
        race.move(direction);
        return ways.measure(race.board, mover);
    }

    public int build(int x, int y, boolean upright) throws IndexOutOfBoundsException, IllegalStateException {
        checkPlace(x, y);
        int way = upright ? UPRIGHT : LEVEL;
        if (!planner.mayBuild(race, x, y, way)) {
            throw new IllegalStateException("no such wall now");
        }
        history.keep(race);
        Pawn builder = race.pawns[race.turn];
        race.buildWall(x, y, way);
        return builder.walls;
    }

    public int pass() throws IllegalStateException {
        if (!race.mayPass()) {
            throw new IllegalStateException("no passing now");
        }
        history.keep(race);
        race.endTurn();
        return race.mover();
    }

    public int play(int mode, int turns) throws IllegalArgumentException {
        checkPlay(mode, turns);
        history.keep(race);
        return planner.playTurns(race, mode, turns);
    }

    // ---- report, undo, a saved race

    public int report() {
        reportedBytes = 0;
        for (int y = race.board.height - 1; y >= 0; y--) {
            for (int x = 0; x < race.board.width; x++) {
                int pawn = race.pawnOn(y * ROW + x);
                writeByte(pawn == NONE ? '.' : '0' + pawn);
            }
            writeByte('\n');
        }
        for (int y = 0; y < race.board.height - 1; y++) {
            for (int x = 0; x < race.board.width - 1; x++) {
                writeWall(x, y);
            }
        }
        writeByte('\n');
        return reportedBytes;
    }

    public int reportByte(int i) throws IndexOutOfBoundsException {
        if (i < 0 || i >= reportedBytes) {
            throw new IndexOutOfBoundsException("no such byte of the report");
        }
        return reported[i];
    }

    public int undo() {
        return history.takeBack(race) ? history.count : NONE;
    }

    public int save() {
        saved.copyFrom(race);
        isSaved = true;
        return saved.turns;
    }

    public int restore() throws IllegalStateException {
        if (!isSaved) {
            throw new IllegalStateException("nothing was saved");
        }
        race.copyFrom(saved);
        history.forget();
        return race.turns;
    }

    // ---- helpers of the methods above

    private void checkPawn(int pawn) {
        if (pawn < 0 || pawn >= race.count) {
            throw new IndexOutOfBoundsException("no such pawn");
        }
    }

    private void checkCell(int x, int y) {
        if (!race.board.hasCell(x, y)) {
            throw new IndexOutOfBoundsException("no such cell");
        }
    }

    private void checkPlace(int x, int y) {
        if (!race.board.hasPlace(x, y)) {
            throw new IndexOutOfBoundsException("no such place");
        }
    }

    private void checkDirection(int direction) {
        if (direction < 0 || direction >= DIRECTIONS) {
            throw new IllegalArgumentException("no such direction");
        }
    }

    private void checkPlay(int mode, int turns) {
        if (!mayPlay(mode, turns)) {
            throw new IllegalArgumentException("no such mode or number of turns");
        }
    }

    private void writeWall(int x, int y) {
        int way = race.board.wallOn(x, y);
        if (way != NONE) {
            writeByte(way == LEVEL ? '-' : '|');
            writeByte('0' + x);
            writeByte('0' + y);
        }
    }

    private void writeByte(int value) {
        if (reportedBytes < reported.length) {
            reported[reportedBytes] = (byte) value;
            reportedBytes++;
        }
    }

    private static boolean mayPlay(int mode, int turns) {
        return mode >= 0 && mode < MODES && turns >= 1 && turns <= MOST_PLAYED;
    }

    /** A pawn of a race: where it is, where it goes, and what it has done. */
    private static final class Pawn {
        int cell;
        int side;
        int walls;
        int made;
        int latest;
        int rank;

        Pawn() {
            latest = NONE;
        }

        void copyFrom(Pawn other) {
            cell = other.cell;
            side = other.side;
            walls = other.walls;
            made = other.made;
            latest = other.latest;
            rank = other.rank;
        }
    }

    /** A rule that bans steps of a pawn; what it bans is told as a bit mask of directions. */
    private static final class Ban {
        static final int BACK = 0;
        static final int AGAIN = 1;
        static final int EVERY = 2;
        static final int WITHIN = 3;

        int pawn;
        int kind;
        int side;
        int every;
        int remainder;
        int west;
        int east;
        int south;
        int north;

        Ban() {
            every = 2;
        }

        void copyFrom(Ban other) {
            pawn = other.pawn;
            kind = other.kind;
            side = other.side;
            every = other.every;
            remainder = other.remainder;
            west = other.west;
            east = other.east;
            south = other.south;
            north = other.north;
        }

        void setEvery(int side, int every, int remainder) {
            kind = EVERY;
            this.side = side;
            this.every = every;
            this.remainder = remainder;
        }

        void setWithin(int side, int cell, int other) {
            kind = WITHIN;
            this.side = side;
            west = Math.min(cell % ROW, other % ROW);
            east = Math.max(cell % ROW, other % ROW);
            south = Math.min(cell / ROW, other / ROW);
            north = Math.max(cell / ROW, other / ROW);
        }

        int byLatest(int latest) {
            if (latest == NONE) {
                return 0;
            }
            if (kind == BACK) {
                return 1 << (latest ^ OPPOSITE);
            }
            return kind == AGAIN ? 1 << latest : 0;
        }

        int byNumber(int made) {
            boolean bans = kind == EVERY && every > 0 && made % every == remainder;
            return bans ? 1 << side : 0;
        }

        int byCell(int cell) {
            int x = cell % ROW;
            int y = cell / ROW;
            boolean bans = kind == WITHIN && x >= west && x <= east && y >= south && y <= north;
            return bans ? 1 << side : 0;
        }
    }

    /** The cells and the walls between them. The cell x, y has the number y * ROW + x. */
    private static final class Board {
        int width;
        int height;
        int walls;
        /** By place: LEVEL, UPRIGHT or NONE. */
        final int[] built;
        /** By cell: a bit mask of the directions that neither a wall nor the edge blocks. */
        final int[] open;

        Board() {
            built = new int[PLACES];
            open = new int[CELLS];
            clear(USUAL_WIDTH, USUAL_WIDTH);
        }

        void clear(int newWidth, int newHeight) {
            width = newWidth;
            height = newHeight;
            walls = 0;
            Arrays.fill(built, NONE);
            for (int cell = 0; cell < CELLS; cell++) {
                open[cell] = openWithoutWalls(cell % ROW, cell / ROW);
            }
        }

        private int openWithoutWalls(int x, int y) {
            if (!hasCell(x, y)) {
                return 0;
            }
            return (y < height - 1 ? 1 << NORTH : 0) | (x < width - 1 ? 1 << EAST : 0)
                | (y > 0 ? 1 << SOUTH : 0) | (x > 0 ? 1 << WEST : 0);
        }

        void copyFrom(Board other) {
            width = other.width;
            height = other.height;
            walls = other.walls;
            System.arraycopy(other.built, 0, built, 0, PLACES);
            System.arraycopy(other.open, 0, open, 0, CELLS);
        }

        boolean hasCell(int x, int y) {
            return x >= 0 && x < width && y >= 0 && y < height;
        }

        boolean hasPlace(int x, int y) {
            return x >= 0 && x < width - 1 && y >= 0 && y < height - 1;
        }

        /** The cell behind an open step; NONE if the step is blocked. */
        int behind(int cell, int direction) {
            if (cell < 0 || cell >= CELLS || (open[cell] >> direction & 1) == 0) {
                return NONE;
            }
            return cell + OFFSETS[direction];
        }

        boolean liesAt(int cell, int side) {
            switch (side) {
                case NORTH: return cell / ROW == height - 1;
                case EAST: return cell % ROW == width - 1;
                case SOUTH: return cell / ROW == 0;
                default: return cell % ROW == 0;
            }
        }

        int sideLength(int side) {
            return side == NORTH || side == SOUTH ? width : height;
        }

        int sideCell(int side, int i) {
            switch (side) {
                case NORTH: return (height - 1) * ROW + i;
                case EAST: return i * ROW + width - 1;
                case SOUTH: return i;
                default: return i * ROW;
            }
        }

        /** The wall at a place; NONE also if there is no such place. */
        int wallOn(int x, int y) {
            // hasPlace() is written out, since calls may go eight deep only and this one is the eighth in a script
            boolean isPlace = x >= 0 && x < width - 1 && y >= 0 && y < height - 1;
            return isPlace ? built[y * PLACE_ROW + x] : NONE;
        }

        /** Whether a wall crosses or overlaps no other one; ways are not looked at. */
        boolean hasRoom(int x, int y, int way) {
            if (!hasPlace(x, y) || wallOn(x, y) != NONE) {
                return false;
            }
            if (way == LEVEL) {
                return wallOn(x - 1, y) != LEVEL && wallOn(x + 1, y) != LEVEL;
            }
            return wallOn(x, y - 1) != UPRIGHT && wallOn(x, y + 1) != UPRIGHT;
        }

        /** Builds a wall for which there is room. */
        void raise(int x, int y, int way) {
            if (hasPlace(x, y)) {
                built[y * PLACE_ROW + x] = way;
                walls++;
                toggleSteps(y * ROW + x, way);
            }
        }

        /** Takes a wall away; no other one blocks its steps, so they are open then. */
        void raze(int x, int y) {
            int way = wallOn(x, y);
            if (way != NONE) {
                built[y * PLACE_ROW + x] = NONE;
                walls--;
                toggleSteps(y * ROW + x, way);
            }
        }

        /** Blocks or opens the two steps, there and back, that a wall crosses; the first one is from the cell. */
        private void toggleSteps(int cell, int way) {
            int direction = way == LEVEL ? NORTH : EAST;
            int beside = way == LEVEL ? 1 : ROW;
            for (int i = 0; i < 2; i++) {
                int near = cell + i * beside;
                int far = near + OFFSETS[direction];
                if (near >= 0 && far < CELLS) {
                    open[near] ^= 1 << direction;
                    open[far] ^= 1 << (direction ^ OPPOSITE);
                }
            }
        }
    }

    /** Distances over a board and what follows from them; pawns and bans do not matter here. */
    private static final class Ways {
        /** By cell, from the latest spread(); NONE for cells that it did not reach. */
        final int[] distances;
        private final int[] queue;
        private int queued;
        private final int[] numbers;

        Ways() {
            distances = new int[CELLS];
            queue = new int[CELLS];
            numbers = new int[CELLS];
        }

        /**
         * Sets the distances of cells to a side, by ways that do not pass the cell avoided (or NONE).
         * It ends at the cell target (or NONE), whose distance it returns: then just the nearer ones have theirs.
         */
        int spread(Board board, int side, int avoided, int target) {
            Arrays.fill(distances, NONE);
            queued = 0;
            int length = board.sideLength(side);
            for (int i = 0; i < length; i++) {
                int cell = board.sideCell(side, i);
                if (cell != avoided) {
                    beginAt(cell);
                }
            }
            flow(board, avoided, target);
            return target >= 0 && target < CELLS ? distances[target] : NONE;
        }

        private void beginAt(int cell) {
            if (cell >= 0 && cell < CELLS && queued < CELLS) {
                distances[cell] = 0;
                queue[queued] = cell;
                queued++;
            }
        }

        private void flow(Board board, int avoided, int target) {
            for (int i = 0; i < queued && i < CELLS; i++) {
                int cell = queue[i];
                if (cell == target) {
                    return;
                }
                for (int direction = 0; direction < DIRECTIONS; direction++) {
                    int next = cell + OFFSETS[direction];
                    boolean isOpen = (board.open[cell] >> direction & 1) != 0 && next != avoided;
                    if (isOpen && next >= 0 && next < CELLS && distances[next] == NONE && queued < CELLS) {
                        distances[next] = distances[cell] + 1;
                        queue[queued] = next;
                        queued++;
                    }
                }
            }
        }

        /** The distance of a pawn; NONE if it has no way. */
        int measure(Board board, Pawn pawn) {
            return spread(board, pawn.side, NONE, pawn.cell);
        }

        /** Whether a step from a cell that has its distance is on a shortest way. */
        boolean isNearer(Board board, int cell, int direction) {
            int next = cell + OFFSETS[direction];
            boolean isOpen = (board.open[cell] >> direction & 1) != 0 && next >= 0 && next < CELLS;
            return isOpen && distances[cell] > 0 && distances[next] == distances[cell] - 1;
        }

        int countWays(Board board, Pawn pawn) {
            measure(board, pawn);
            for (int i = 0; i < queued; i++) {
                int cell = queue[i];
                numbers[cell] = distances[cell] == 0 ? 1 : sumOfNearer(board, cell);
            }
            return distances[pawn.cell] == NONE ? 0 : numbers[pawn.cell];
        }

        private int sumOfNearer(Board board, int cell) {
            int sum = 0;
            for (int direction = 0; direction < DIRECTIONS; direction++) {
                if (isNearer(board, cell, direction)) {
                    sum += numbers[cell + OFFSETS[direction]];
                }
            }
            return sum % MODULUS;
        }

        /** Marks cells from the pawn toward its side, and so not by numbers of ways, which may be 0 by the modulus. */
        int countCellsOnWays(Board board, Pawn pawn) {
            measure(board, pawn);
            Arrays.fill(numbers, 0);
            numbers[pawn.cell] = 1;
            int cells = 0;
            for (int i = queued - 1; i >= 0; i--) {
                int cell = queue[i];
                if (numbers[cell] != 0) {
                    cells++;
                    markNearer(board, cell);
                }
            }
            return cells;
        }

        private void markNearer(Board board, int cell) {
            for (int direction = 0; direction < DIRECTIONS; direction++) {
                if (isNearer(board, cell, direction)) {
                    numbers[cell + OFFSETS[direction]] = 1;
                }
            }
        }

        int countGates(Board board, Pawn pawn) {
            int gates = 0;
            for (int cell = 0; cell < CELLS; cell++) {
                if (closesAt(board, pawn, cell)) {
                    gates++;
                }
            }
            return gates;
        }

        /** Whether a pawn would have no way if it could not pass a cell. */
        boolean closesAt(Board board, Pawn pawn, int cell) {
            if (pawn.rank != 0 || cell == pawn.cell || !board.hasCell(cell % ROW, cell / ROW)) {
                return false;
            }
            return spread(board, pawn.side, cell, pawn.cell) == NONE;
        }

        int countRegions(Board board) {
            Arrays.fill(distances, NONE);
            queued = 0;
            int regions = 0;
            for (int cell = 0; cell < CELLS; cell++) {
                if (board.hasCell(cell % ROW, cell / ROW) && distances[cell] == NONE) {
                    regions++;
                    queued = 0;
                    beginAt(cell);
                    flow(board, NONE, NONE);
                }
            }
            return regions;
        }
    }

    /**
     * Ways that keep to the bans of a pawn, step by step: for each cell and latest step, how many ways lead there.
     * A number is 0 if there is none, otherwise from 1 to MODULUS, so that a multiple of it does not look like none.
     */
    private static final class BanWays {
        /** The latest steps: four directions, and none. */
        private static final int LATEST = 5;

        private int[] now;
        private int[] then;
        private final int[] bannedByCell;
        private final int[] bannedByLatest;

        BanWays() {
            now = new int[CELLS * LATEST];
            then = new int[CELLS * LATEST];
            bannedByCell = new int[CELLS];
            bannedByLatest = new int[LATEST];
        }

        int leastSteps(Race race, int pawn) {
            if (race.pawns[pawn].rank != 0) {
                return 0;
            }
            begin(race, pawn);
            for (int n = 1; n <= MOST_STEPS; n++) {
                if (goOn(race, pawn, n - 1) != 0) {
                    return n;
                }
            }
            return NONE;
        }

        int countWays(Race race, int pawn, int n) {
            if (race.pawns[pawn].rank != 0) {
                return n == 0 ? 1 : 0;
            }
            begin(race, pawn);
            int arrived = 0;
            for (int behind = 0; behind < n; behind++) {
                arrived = goOn(race, pawn, behind);
            }
            return arrived % MODULUS;
        }

        private void begin(Race race, int pawn) {
            Arrays.fill(bannedByCell, 0);
            Arrays.fill(bannedByLatest, 0);
            for (int i = 0; i < race.banCount; i++) {
                if (race.bans[i].pawn == pawn) {
                    addBan(race.bans[i]);
                }
            }
            Arrays.fill(now, 0);
            Pawn walker = race.pawns[pawn];
            now[walker.cell * LATEST + (walker.latest == NONE ? DIRECTIONS : walker.latest)] = 1;
        }

        private void addBan(Ban ban) {
            for (int cell = 0; cell < CELLS; cell++) {
                bannedByCell[cell] |= ban.byCell(cell);
            }
            for (int latest = 0; latest < DIRECTIONS; latest++) {
                bannedByLatest[latest] |= ban.byLatest(latest);
            }
        }

        /** Makes one more step behind some; returns the number of ways that come to the side by it. */
        private int goOn(Race race, int pawn, int stepsBehind) {
            Arrays.fill(then, 0);
            Pawn walker = race.pawns[pawn];
            int banned = race.bannedByNumber(pawn, walker.made + stepsBehind);
            int arrived = 0;
            for (int cell = 0; cell < CELLS; cell++) {
                int free = race.board.open[cell] & ~(banned | bannedByCell[cell]);
                for (int direction = 0; direction < DIRECTIONS; direction++) {
                    int number = (free >> direction & 1) == 0 ? 0 : waysThat(cell, direction);
                    int next = cell + OFFSETS[direction];
                    if (number == 0 || next < 0 || next >= CELLS) {
                        continue;
                    }
                    if (race.board.liesAt(next, walker.side)) {
                        arrived = sum(arrived, number);
                    } else {
                        then[next * LATEST + direction] = number;
                    }
                }
            }
            int[] old = now;
            now = then;
            then = old;
            return arrived;
        }

        /** The number of ways to a cell whose latest step lets them go on in a direction. */
        private int waysThat(int cell, int direction) {
            int number = 0;
            for (int latest = 0; latest < LATEST; latest++) {
                if ((bannedByLatest[latest] >> direction & 1) == 0) {
                    number = sum(number, now[cell * LATEST + latest]);
                }
            }
            return number;
        }

        private static int sum(int a, int b) {
            int both = a + b;
            return both > MODULUS ? both - MODULUS : both;
        }
    }

    /** All that changes in a race, and the bans. */
    private static final class Race {
        final Board board;
        final Pawn[] pawns;
        int count;
        final Ban[] bans;
        int banCount;
        int turns;
        /** The pawn whose turn it would be if the race were not over. */
        int turn;
        int finished;

        Race() {
            board = new Board();
            pawns = new Pawn[MOST_PAWNS];
            for (int i = 0; i < MOST_PAWNS; i++) {
                pawns[i] = new Pawn();
            }
            bans = new Ban[MOST_BANS];
            for (int i = 0; i < MOST_BANS; i++) {
                bans[i] = new Ban();
            }
        }

        void clear() {
            board.clear(USUAL_WIDTH, USUAL_WIDTH);
            count = 0;
            banCount = 0;
            turns = 0;
            turn = 0;
            finished = 0;
        }

        void copyFrom(Race other) {
            board.copyFrom(other.board);
            for (int i = 0; i < MOST_PAWNS; i++) {
                pawns[i].copyFrom(other.pawns[i]);
            }
            for (int i = 0; i < MOST_BANS; i++) {
                bans[i].copyFrom(other.bans[i]);
            }
            count = other.count;
            banCount = other.banCount;
            turns = other.turns;
            turn = other.turn;
            finished = other.finished;
        }

        void addPawn(int cell, int side, int walls) {
            if (count < MOST_PAWNS) {
                Pawn added = pawns[count];
                added.cell = cell;
                added.side = side;
                added.walls = walls;
                added.made = 0;
                added.latest = NONE;
                added.rank = 0;
                count++;
            }
        }

        boolean hasEnded() {
            return count - finished < 2 || turns >= MOST_TURNS;
        }

        /** The pawn whose turn it is; NONE if the race is over. */
        int mover() {
            return hasEnded() ? NONE : turn;
        }

        int pawnOn(int cell) {
            for (int i = 0; i < count; i++) {
                if (pawns[i].cell == cell && pawns[i].rank == 0) {
                    return i;
                }
            }
            return NONE;
        }

        int pawnOfRank(int rank) {
            for (int i = 0; i < count; i++) {
                if (rank > 0 && pawns[i].rank == rank) {
                    return i;
                }
            }
            return NONE;
        }

        int bansOf(int pawn) {
            int number = 0;
            for (int i = 0; i < banCount; i++) {
                if (bans[i].pawn == pawn) {
                    number++;
                }
            }
            return number;
        }

        /** The directions that a pawn's rules ban behind so many steps, whatever its cell and its latest step are. */
        int bannedByNumber(int pawn, int made) {
            int banned = 0;
            for (int i = 0; i < banCount; i++) {
                if (bans[i].pawn == pawn) {
                    banned |= bans[i].byNumber(made);
                }
            }
            return banned;
        }

        /** The directions that its rules ban to a pawn as it is now. */
        int bannedNow(int pawn) {
            Pawn asked = pawns[pawn];
            int banned = 0;
            for (int i = 0; i < banCount; i++) {
                Ban ban = bans[i];
                if (ban.pawn == pawn) {
                    banned |= ban.byLatest(asked.latest) | ban.byNumber(asked.made) | ban.byCell(asked.cell);
                }
            }
            return banned;
        }

        /** The cell to which a pawn steps or jumps in a direction; NONE if it cannot. */
        int landing(int pawn, int direction) {
            if (hasEnded() || pawns[pawn].rank != 0 || (bannedNow(pawn) >> direction & 1) != 0) {
                return NONE;
            }
            int next = board.behind(pawns[pawn].cell, direction);
            if (next == NONE || pawnOn(next) == NONE) {
                return next;
            }
            next = board.behind(next, direction);
            return next == NONE || pawnOn(next) != NONE ? NONE : next;
        }

        int stepMask(int pawn) {
            int mask = 0;
            for (int direction = 0; direction < DIRECTIONS; direction++) {
                mask |= landing(pawn, direction) == NONE ? 0 : 1 << direction;
            }
            return mask;
        }

        boolean mayMove(int direction) {
            return !hasEnded() && landing(turn, direction) != NONE;
        }

        boolean mayPass() {
            return !hasEnded() && stepMask(turn) == 0;
        }

        /** Makes a step of the pawn whose turn it is, if it can. */
        void move(int direction) {
            int cell = landing(turn, direction);
            if (cell == NONE) {
                return;
            }
            Pawn moved = pawns[turn];
            moved.cell = cell;
            moved.made++;
            moved.latest = direction;
            if (board.liesAt(cell, moved.side)) {
                finished++;
                moved.rank = finished;
            }
            endTurn();
        }

        /** Builds a wall that is admissible, of the pawn whose turn it is. */
        void buildWall(int x, int y, int way) {
            board.raise(x, y, way);
            pawns[turn].walls--;
            endTurn();
        }

        void endTurn() {
            turns++;
            for (int i = 1; i <= count; i++) {
                int next = turn + i < count ? turn + i : turn + i - count;
                if (pawns[next].rank == 0) {
                    turn = next;
                    return;
                }
            }
        }
    }

    /**
     * Finds admissible and best walls, advises steps, and plays by itself.
     *
     * It mostly calls spread() where measure() would do: calls may go eight deep only, and in a script they do.
     */
    private static final class Planner {
        private final Ways ways;
        /** By pawn and cell: the directions of one shortest way of the pawn through it, both ways. */
        private final int[] trails;
        private final int[] distances;
        int bestX;
        int bestY;
        int bestWay;
        int bestGain;

        Planner() {
            ways = new Ways();
            trails = new int[MOST_PAWNS * CELLS];
            distances = new int[MOST_PAWNS];
        }

        boolean hasWay(Race race, int pawn) {
            return pawn >= 0 && pawn < race.count && ways.measure(race.board, race.pawns[pawn]) != NONE;
        }

        boolean admitsNow(Race race, int x, int y, int way) {
            markTrails(race);
            return admits(race, x, y, way);
        }

        boolean mayBuild(Race race, int x, int y, int way) {
            return !race.hasEnded() && race.pawns[race.turn].walls > 0 && admitsNow(race, x, y, way);
        }

        int countAdmitted(Race race) {
            markTrails(race);
            int number = 0;
            for (int y = 0; y < race.board.height - 1; y++) {
                for (int x = 0; x < race.board.width - 1; x++) {
                    number += admits(race, x, y, LEVEL) ? 1 : 0;
                    number += admits(race, x, y, UPRIGHT) ? 1 : 0;
                }
            }
            return number;
        }

        /** Notes a shortest way of each pawn: a wall that does not cut it leaves the pawn's distance as it is. */
        void markTrails(Race race) {
            Arrays.fill(trails, 0);
            for (int i = 0; i < race.count; i++) {
                distances[i] = ways.spread(race.board, race.pawns[i].side, NONE, race.pawns[i].cell);
                markTrail(race, i);
            }
        }

        private void markTrail(Race race, int pawn) {
            int cell = race.pawns[pawn].cell;
            for (int left = distances[pawn]; left > 0; left--) {
                int direction = 0;
                while (direction < DIRECTIONS && !ways.isNearer(race.board, cell, direction)) {
                    direction++;
                }
                if (direction == DIRECTIONS) {
                    return;
                }
                trails[pawn * CELLS + cell] |= 1 << direction;
                cell += OFFSETS[direction];
                trails[pawn * CELLS + cell] |= 1 << (direction ^ OPPOSITE);
            }
        }

        private boolean cutsTrail(int pawn, int x, int y, int way) {
            int at = pawn * CELLS + y * ROW + x;
            int first = way == LEVEL ? trails[at] >> NORTH : trails[at] >> EAST;
            int second = way == LEVEL ? trails[at + 1] >> NORTH : trails[at + ROW] >> EAST;
            return ((first | second) & 1) != 0;
        }

        /** Whether a wall is admissible; markTrails() is done ahead of it. */
        boolean admits(Race race, int x, int y, int way) {
            if (!race.board.hasRoom(x, y, way)) {
                return false;
            }
            race.board.raise(x, y, way);
            boolean all = true;
            for (int i = 0; i < race.count && all; i++) {
                Pawn pawn = race.pawns[i];
                if (pawn.rank == 0 && cutsTrail(i, x, y, way)) {
                    all = ways.spread(race.board, pawn.side, NONE, pawn.cell) != NONE;
                }
            }
            race.board.raze(x, y);
            return all;
        }

        /** By how much an admissible wall makes the distance of a pawn greater; markTrails() is done ahead of it. */
        int loss(Race race, int pawn, int x, int y, int way) {
            if (!cutsTrail(pawn, x, y, way)) {
                return 0;
            }
            race.board.raise(x, y, way);
            int distance = ways.spread(race.board, race.pawns[pawn].side, NONE, race.pawns[pawn].cell);
            race.board.raze(x, y);
            return distance - distances[pawn];
        }

        /** Sets the best wall against a pawn; returns whether there is one. */
        boolean findBest(Race race, int pawn) {
            bestGain = NONE;
            if (race.pawns[pawn].rank != 0) {
                return false;
            }
            markTrails(race);
            for (int y = 0; y < race.board.height - 1; y++) {
                for (int x = 0; x < race.board.width - 1; x++) {
                    for (int way = LEVEL; way <= UPRIGHT; way++) {
                        if (admits(race, x, y, way)) {
                            keepBetter(loss(race, pawn, x, y, way), x, y, way);
                        }
                    }
                }
            }
            return bestGain != NONE;
        }

        private void keepBetter(int gained, int x, int y, int way) {
            if (gained > bestGain) {
                bestGain = gained;
                bestX = x;
                bestY = y;
                bestWay = way;
            }
        }

        /** The pawn with the least distance of those that have not finished, but for one (or NONE). */
        int nearest(Race race, int butFor) {
            int best = NONE;
            int least = 0;
            for (int i = 0; i < race.count; i++) {
                if (race.pawns[i].rank != 0 || i == butFor) {
                    continue;
                }
                int distance = ways.spread(race.board, race.pawns[i].side, NONE, race.pawns[i].cell);
                if (best == NONE || distance < least) {
                    best = i;
                    least = distance;
                }
            }
            return best;
        }

        int advise(Race race, int pawn) {
            ways.spread(race.board, race.pawns[pawn].side, NONE, NONE);
            int best = NONE;
            int least = 0;
            for (int direction = 0; direction < DIRECTIONS; direction++) {
                int cell = race.landing(pawn, direction);
                if (cell != NONE && (best == NONE || ways.distances[cell] < least)) {
                    best = direction;
                    least = ways.distances[cell];
                }
            }
            return best;
        }

        /** Plays turns until the race is over; returns how many. */
        int playTurns(Race race, int mode, int turns) {
            int played = 0;
            for (; played < turns && !race.hasEnded(); played++) {
                int rival = mode == 1 ? rivalAhead(race) : NONE;
                if (rival != NONE && findBest(race, rival) && bestGain >= 1) {
                    race.buildWall(bestX, bestY, bestWay);
                    continue;
                }
                int direction = advise(race, race.turn);
                if (direction == NONE) {
                    race.endTurn();
                } else {
                    race.move(direction);
                }
            }
            return played;
        }

        /** The pawn against which the pawn whose turn it is would build; NONE if it would not. */
        private int rivalAhead(Race race) {
            Pawn mover = race.pawns[race.turn];
            int rival = mover.walls > 0 ? nearest(race, race.turn) : NONE;
            if (rival == NONE) {
                return NONE;
            }
            int own = ways.measure(race.board, mover);
            return ways.measure(race.board, race.pawns[rival]) < own ? rival : NONE;
        }
    }

    /** The buffer, the tokens in it, one of them after the other, and the first error. */
    private static final class Tokens {
        static final int SPACE = 0;
        static final int WORD = 1;
        static final int NUMBER = 2;
        static final int SIGN = 3;
        static final int INVALID = 4;
        static final int END = 5;

        private static final int WORD_BYTES = 8;
        private static final int NUMBER_BYTES = 3;

        private final byte[] text;
        int length;
        private final int[] kinds;
        private final int[] starts;
        private final int[] sizes;
        private int count;
        private int current;
        /** The present token: its kind, its first byte and its length; and the latest number that was read. */
        int kind;
        int start;
        int size;
        int value;
        int errorCode;
        int errorPosition;

        Tokens() {
            text = new byte[TEXT_BYTES];
            kinds = new int[TEXT_BYTES + 1];
            starts = new int[TEXT_BYTES + 1];
            sizes = new int[TEXT_BYTES + 1];
            errorPosition = NONE;
        }

        void append(int four) {
            for (int shift = 24; shift >= 0; shift -= 8) {
                if (length < TEXT_BYTES) {
                    text[length] = (byte) (four >> shift);
                    length++;
                }
            }
        }

        /** Finds all tokens of the buffer; advance() then goes to the first one. */
        void begin() {
            errorCode = 0;
            errorPosition = NONE;
            count = 0;
            current = NONE;
            int before = SPACE;
            for (int i = 0; i < length; i++) {
                int found = kindOf(byteAt(i));
                if (found == before && (found == WORD || found == NUMBER) && count > 0) {
                    sizes[count - 1]++;
                } else if (found != SPACE) {
                    addToken(found, i);
                }
                before = found;
            }
            addToken(END, length);
        }

        private void addToken(int found, int at) {
            if (count < kinds.length) {
                kinds[count] = found;
                starts[count] = at;
                sizes[count] = 1;
                count++;
            }
        }

        private static int kindOf(int value) {
            if (value == ' ' || value == '\n') {
                return SPACE;
            }
            if (value >= 'a' && value <= 'z') {
                return WORD;
            }
            if (value >= '0' && value <= '9') {
                return NUMBER;
            }
            return value == ';' || value == '(' || value == ')' ? SIGN : INVALID;
        }

        private int byteAt(int i) {
            return i >= 0 && i < length && i < TEXT_BYTES ? text[i] & 255 : NONE;
        }

        /** Goes to the next token; behind the last one there is END, again and again. */
        void advance() {
            if (current + 1 < count) {
                current++;
            }
            if (current < 0 || current >= kinds.length) {
                return;
            }
            kind = kinds[current];
            start = starts[current];
            size = sizes[current];
            if (kind == WORD && size > WORD_BYTES || kind == NUMBER && size > NUMBER_BYTES) {
                kind = INVALID;
            }
        }

        /** Notes an error at the token; returns false, which the readers hand on. */
        boolean fail(int code) {
            errorCode = code;
            errorPosition = start;
            return false;
        }

        boolean isWord(String word) {
            if (kind != WORD || size != word.length()) {
                return false;
            }
            for (int i = 0; i < size; i++) {
                int at = start + i;
                if (at < 0 || at >= length || at >= TEXT_BYTES || text[at] != word.charAt(i)) {
                    return false;
                }
            }
            return true;
        }

        boolean isSign(int sign) {
            return kind == SIGN && byteAt(start) == sign;
        }

        /** Whether the token is the same word as an earlier one. */
        boolean isSameWord(int otherStart, int otherSize) {
            if (kind != WORD || size != otherSize) {
                return false;
            }
            for (int i = 0; i < otherSize; i++) {
                if (byteAt(start + i) != byteAt(otherStart + i)) {
                    return false;
                }
            }
            return true;
        }

        /** The direction that the token names; NONE if it names none. */
        int side() {
            if (isWord("north")) {
                return NORTH;
            }
            if (isWord("east")) {
                return EAST;
            }
            if (isWord("south")) {
                return SOUTH;
            }
            return isWord("west") ? WEST : NONE;
        }

        /** Reads the side that has to come next; NONE behind an error. */
        int needSide() {
            advance();
            int side = side();
            if (side == NONE) {
                fail(1);
            }
            return side;
        }

        /** Reads the way of a wall that has to come next; NONE behind an error. */
        int needWay() {
            advance();
            if (isWord("level")) {
                return LEVEL;
            }
            if (isWord("upright")) {
                return UPRIGHT;
            }
            fail(1);
            return NONE;
        }

        boolean needSign(int sign) {
            advance();
            return isSign(sign) || fail(1);
        }

        /** Reads the number that has to come next, into value. */
        boolean needNumber(int least, int most) {
            advance();
            if (kind != NUMBER) {
                return fail(1);
            }
            value = 0;
            for (int i = 0; i < size; i++) {
                value = value * 10 + byteAt(start + i) - '0';
            }
            return value >= least && value <= most || fail(2);
        }
    }

    /** Reads a race from its text. Each method that reads returns whether there was no error. */
    private static final class RaceReader {
        private final Tokens tokens;
        private final Race race;
        private final Planner planner;
        private final int[] nameStarts;
        private final int[] nameSizes;
        private boolean hasBoard;
        private boolean hasWalls;
        private int usualWalls;
        private int cell;

        RaceReader(Tokens source, Race target, Planner admitting) {
            tokens = source;
            race = target;
            planner = admitting;
            nameStarts = new int[MOST_PAWNS];
            nameSizes = new int[MOST_PAWNS];
        }

        /** Reads the whole buffer into the race. */
        boolean readRace() {
            race.clear();
            hasBoard = false;
            hasWalls = false;
            usualWalls = USUAL_WALLS;
            tokens.begin();
            for (int i = 0; i <= TEXT_BYTES; i++) {
                tokens.advance();
                if (tokens.kind == Tokens.END) {
                    return true;
                }
                if (!readStatement()) {
                    return false;
                }
            }
            return true;
        }

        private boolean readStatement() {
            if (tokens.isWord("board")) {
                return readBoard();
            }
            if (tokens.isWord("walls")) {
                return readWalls();
            }
            if (tokens.isWord("pawn")) {
                return readPawn();
            }
            if (tokens.isWord("ban")) {
                return readBan();
            }
            return tokens.isWord("block") ? readBlock() : tokens.fail(1);
        }

        private boolean readBoard() {
            if (hasBoard || race.count > 0 || race.board.walls > 0) {
                return tokens.fail(3);
            }
            hasBoard = true;
            if (!tokens.needNumber(3, 9)) {
                return false;
            }
            int width = tokens.value;
            if (!tokens.needNumber(3, 9)) {
                return false;
            }
            race.board.clear(width, tokens.value);
            return tokens.needSign(';');
        }

        private boolean readWalls() {
            if (hasWalls) {
                return tokens.fail(3);
            }
            hasWalls = true;
            if (!tokens.needNumber(0, MOST_WALLS)) {
                return false;
            }
            usualWalls = tokens.value;
            return tokens.needSign(';');
        }

        private boolean readPawn() {
            int number = race.count;
            if (number < 0 || number >= MOST_PAWNS) {
                return tokens.fail(6);
            }
            if (!readName(false)) {
                return false;
            }
            nameStarts[number] = tokens.start;
            nameSizes[number] = tokens.size;
            if (!readCell()) {
                return false;
            }
            if (race.pawnOn(cell) != NONE) {
                return tokens.fail(4);
            }
            int side = tokens.needSide();
            if (side == NONE) {
                return false;
            }
            if (race.board.liesAt(cell, side)) {
                return tokens.fail(4);
            }
            if (!readWallsOfPawn(side)) {
                return false;
            }
            return planner.hasWay(race, number) || tokens.fail(5);
        }

        /** Reads the end of a pawn's statement, and adds the pawn. */
        private boolean readWallsOfPawn(int side) {
            int walls = usualWalls;
            tokens.advance();
            if (tokens.isWord("walls")) {
                if (!tokens.needNumber(0, MOST_WALLS)) {
                    return false;
                }
                walls = tokens.value;
                tokens.advance();
            }
            if (!tokens.isSign(';')) {
                return tokens.fail(1);
            }
            race.addPawn(cell, side, walls);
            return true;
        }

        /** Reads a name that a pawn has, or that none has. */
        private boolean readName(boolean known) {
            tokens.advance();
            if (tokens.kind != Tokens.WORD) {
                return tokens.fail(1);
            }
            return known == (pawnNamed() != NONE) || tokens.fail(4);
        }

        private int pawnNamed() {
            for (int i = 0; i < race.count; i++) {
                if (tokens.isSameWord(nameStarts[i], nameSizes[i])) {
                    return i;
                }
            }
            return NONE;
        }

        /** Reads x and y, into cell; the token is that of y then. */
        private boolean readCell() {
            if (!tokens.needNumber(0, race.board.width - 1)) {
                return false;
            }
            int x = tokens.value;
            if (!tokens.needNumber(0, race.board.height - 1)) {
                return false;
            }
            cell = tokens.value * ROW + x;
            return true;
        }

        private boolean readBan() {
            if (race.banCount < 0 || race.banCount >= MOST_BANS) {
                return tokens.fail(6);
            }
            if (!readName(true)) {
                return false;
            }
            Ban ban = race.bans[race.banCount];
            race.banCount++;
            ban.pawn = pawnNamed();
            tokens.advance();
            if (tokens.isWord("back")) {
                ban.kind = Ban.BACK;
                return tokens.needSign(';');
            }
            if (tokens.isWord("again")) {
                ban.kind = Ban.AGAIN;
                return tokens.needSign(';');
            }
            int side = tokens.side();
            if (side == NONE) {
                return tokens.fail(1);
            }
            tokens.advance();
            if (tokens.isWord("every")) {
                return readEvery(ban, side);
            }
            return tokens.isWord("from") ? readWithin(ban, side) : tokens.fail(1);
        }

        private boolean readEvery(Ban ban, int side) {
            if (!tokens.needNumber(2, 5)) {
                return false;
            }
            int every = tokens.value;
            tokens.advance();
            if (!tokens.isWord("at")) {
                return tokens.fail(1);
            }
            if (!tokens.needNumber(0, every - 1)) {
                return false;
            }
            ban.setEvery(side, every, tokens.value);
            return tokens.needSign(';');
        }

        private boolean readWithin(Ban ban, int side) {
            if (!readCell()) {
                return false;
            }
            int first = cell;
            tokens.advance();
            if (!tokens.isWord("to")) {
                return tokens.fail(1);
            }
            if (!readCell()) {
                return false;
            }
            ban.setWithin(side, first, cell);
            return tokens.needSign(';');
        }

        private boolean readBlock() {
            if (race.board.walls >= MOST_BLOCKS) {
                return tokens.fail(6);
            }
            if (!tokens.needNumber(0, race.board.width - 2)) {
                return false;
            }
            int x = tokens.value;
            if (!tokens.needNumber(0, race.board.height - 2)) {
                return false;
            }
            int y = tokens.value;
            int way = tokens.needWay();
            if (way == NONE || !tokens.needSign(';')) {
                return false;
            }
            planner.markTrails(race);
            if (!planner.admits(race, x, y, way)) {
                return tokens.fail(5);
            }
            race.board.raise(x, y, way);
            return true;
        }
    }

    /** A script: read as rows of commands, and performed from them. */
    private static final class Script {
        private static final int STEP = 0;
        private static final int WALL = 1;
        private static final int PASS = 2;
        private static final int PLAY = 3;
        private static final int REPEAT = 4;
        /** Behind the last command of a "repeat"; its first number is the row of the "repeat". */
        private static final int AGAIN = 5;

        private static final int MOST_COMMANDS = 30;
        private static final int MOST_DONE = 40;
        private static final int MOST_DEPTH = 2;
        private static final int MOST_NUMBER = 99;
        private static final int MOST_ROUNDS = 20;
        /** Far more rows than any script runs through: 30 commands in 20 rounds of 20 rounds are 12,000. */
        private static final int MOST_ROWS_RUN = 1000000;

        private final Tokens tokens;
        private final int[] kinds;
        private final int[] firsts;
        private final int[] seconds;
        private final int[] thirds;
        private final int[] roundsLeft;
        private int rows;
        private int commands;
        /** The rows of the "repeat"s that are still open while the text is read. */
        private final int[] opened;
        private int depth;

        Script(Tokens source) {
            tokens = source;
            kinds = new int[2 * MOST_COMMANDS];
            firsts = new int[2 * MOST_COMMANDS];
            seconds = new int[2 * MOST_COMMANDS];
            thirds = new int[2 * MOST_COMMANDS];
            roundsLeft = new int[2 * MOST_COMMANDS];
            opened = new int[MOST_DEPTH];
        }

        /** Reads the whole buffer; returns whether there was no error. */
        boolean readCommands() {
            rows = 0;
            commands = 0;
            depth = 0;
            tokens.begin();
            for (int i = 0; i <= TEXT_BYTES; i++) {
                tokens.advance();
                if (tokens.kind == Tokens.END && depth == 0) {
                    return true;
                }
                boolean closes = depth > 0 && tokens.isSign(')');
                if (!(closes ? closeRepeat() : readCommand())) {
                    return false;
                }
            }
            return true;
        }

        private boolean closeRepeat() {
            depth--;
            if (depth >= 0 && depth < MOST_DEPTH) {
                addRow(AGAIN, opened[depth], 0, 0);
            }
            return tokens.needSign(';');
        }

        private boolean readCommand() {
            int kind = kindOfWord();
            if (kind == NONE) {
                return tokens.fail(1);
            }
            if (kind == REPEAT && depth >= MOST_DEPTH) {
                return tokens.fail(3);
            }
            if (commands >= MOST_COMMANDS) {
                return tokens.fail(6);
            }
            commands++;
            switch (kind) {
                case STEP: return readStep();
                case WALL: return readWall();
                case PASS: return readPass();
                case PLAY: return readPlay();
                default: return readRepeat();
            }
        }

        private int kindOfWord() {
            if (tokens.isWord("step")) {
                return STEP;
            }
            if (tokens.isWord("wall")) {
                return WALL;
            }
            if (tokens.isWord("pass")) {
                return PASS;
            }
            if (tokens.isWord("play")) {
                return PLAY;
            }
            return tokens.isWord("repeat") ? REPEAT : NONE;
        }

        private boolean readRepeat() {
            if (!tokens.needNumber(1, MOST_ROUNDS)) {
                return false;
            }
            if (depth >= 0 && depth < MOST_DEPTH) {
                opened[depth] = rows;
                depth++;
            }
            addRow(REPEAT, tokens.value, 0, 0);
            return tokens.needSign('(');
        }

        private boolean readStep() {
            int side = tokens.needSide();
            addRow(STEP, side, 0, 0);
            return side != NONE && tokens.needSign(';');
        }

        private boolean readWall() {
            if (!tokens.needNumber(0, MOST_NUMBER)) {
                return false;
            }
            int x = tokens.value;
            if (!tokens.needNumber(0, MOST_NUMBER)) {
                return false;
            }
            int y = tokens.value;
            int way = tokens.needWay();
            addRow(WALL, x, y, way);
            return way != NONE && tokens.needSign(';');
        }

        private boolean readPass() {
            addRow(PASS, 0, 0, 0);
            return tokens.needSign(';');
        }

        private boolean readPlay() {
            if (!tokens.needNumber(0, MOST_NUMBER)) {
                return false;
            }
            int mode = tokens.value;
            if (!tokens.needNumber(0, MOST_NUMBER)) {
                return false;
            }
            addRow(PLAY, mode, tokens.value, 0);
            return tokens.needSign(';');
        }

        private void addRow(int kind, int first, int second, int third) {
            if (rows < kinds.length) {
                kinds[rows] = kind;
                firsts[rows] = first;
                seconds[rows] = second;
                thirds[rows] = third;
                rows++;
            }
        }

        /** Performs what was read; returns the number of commands that were done. */
        int run(Race race, Planner planner) {
            int done = 0;
            int row = 0;
            for (int i = 0; i < MOST_ROWS_RUN && row >= 0 && row < rows && done < MOST_DONE; i++) {
                if (kinds[row] == REPEAT) {
                    roundsLeft[row] = firsts[row];
                    row++;
                } else if (kinds[row] == AGAIN) {
                    row = rowBehind(row);
                } else if (perform(race, planner, row)) {
                    done++;
                    row++;
                } else {
                    return done;
                }
            }
            return done;
        }

        /** The row to go on with at the end of a "repeat". */
        private int rowBehind(int row) {
            int begin = firsts[row];
            if (begin < 0 || begin >= rows) {
                return row + 1;
            }
            roundsLeft[begin]--;
            return roundsLeft[begin] > 0 ? begin + 1 : row + 1;
        }

        /** Does one command; returns false, and nothing changes, if its method would throw an exception. */
        private boolean perform(Race race, Planner planner, int row) {
            int first = firsts[row];
            int second = seconds[row];
            switch (kinds[row]) {
                case STEP:
                    if (!race.mayMove(first)) {
                        return false;
                    }
                    race.move(first);
                    return true;
                case WALL:
                    if (!planner.mayBuild(race, first, second, thirds[row])) {
                        return false;
                    }
                    race.buildWall(first, second, thirds[row]);
                    return true;
                case PLAY:
                    if (!mayPlay(first, second)) {
                        return false;
                    }
                    planner.playTurns(race, first, second);
                    return true;
                default:
                    if (!race.mayPass()) {
                        return false;
                    }
                    race.endTurn();
                    return true;
            }
        }
    }

    /** The races ahead of the latest calls that can be undone. */
    private static final class History {
        private final Race[] kept;
        private int next;
        int count;

        History() {
            kept = new Race[MOST_UNDONE];
            for (int i = 0; i < MOST_UNDONE; i++) {
                kept[i] = new Race();
            }
        }

        void keep(Race race) {
            kept[next].copyFrom(race);
            next = next + 1 < MOST_UNDONE ? next + 1 : 0;
            count = Math.min(count + 1, MOST_UNDONE);
        }

        /** Puts the latest one back into a race; returns false if there is none. */
        boolean takeBack(Race race) {
            if (count == 0) {
                return false;
            }
            next = next > 0 ? next - 1 : MOST_UNDONE - 1;
            race.copyFrom(kept[next]);
            count--;
            return true;
        }

        void forget() {
            count = 0;
        }
    }
}
