import java.util.Arrays;

/**
 * A puzzle of blocks that are pushed and turned in a yard with walls, one-way floors, plates and gates.
 *
 * Inside, a cell is the number 8 * y + x and a set of cells is a long with a bit for each of them; a placement is
 * 64 * orientation + the pivot's cell, and an arrangement is a long with eight bits for the placement of each block.
 * So an arrangement is kept, compared and looked up as one number, and no call makes an object.
 */
public final class BlockYard {
    public static final int NO_SUCH_BLOCK = -1;
    public static final int NO_SUCH_CELL = -2;
    public static final int BAD_VALUE = -3;
    public static final int NOT_POSSIBLE = -4;
    public static final int FULL = -5;
    public static final int GIVEN_UP = -6;
    public static final int NONE = -7;

    private static final int BLOCKS = 5;
    private static final int BLOCK_CELLS = 5;
    private static final int GROUPS = 4;
    private static final int SLOTS = 4;
    private static final int LEAST_SIDE = 3;
    private static final int MOST_SIDE = 8;
    private static final int CELLS = 64;
    private static final int PLACEMENTS = 256;
    private static final int PUSHES = 4;
    private static final int CLOCKWISE = 4;
    private static final int KINDS = 6;
    private static final int ORIENTATIONS = 4;
    private static final int ANY_ORIENTATION = 4;
    private static final int MOST_WEIGHT = 9;
    private static final int MOST_LOAD = 45;
    private static final int MOST_SIGNS = 80;
    private static final int MOST_MOVES = 200;
    private static final int MOST_LISTED = 1200;
    private static final int MOST_STEPS = 4;
    private static final int FAULT = -100;
    private static final int NO_FAULT = -1;
    private static final char[] KIND_LETTERS = {'r', 'd', 'l', 'u', 't', 's'};

    private final Text text = new Text();
    private final Level level = new Level();
    private final LevelReader levelReader = new LevelReader(text);
    private final Mover mover = new Mover(level);
    private final History history = new History();
    private final Search search = new Search(level);
    private final long[] saved = new long[SLOTS];
    private int filledSlots = 0;

    public BlockYard() {
    }

    // ---- texts

    public int type(char character) {
        return text.append(character) ? text.length : FULL;
    }

    public int clearText() {
        int before = text.length;
        text.length = 0;
        return before;
    }

    public int readLevel() {
        int fault = levelReader.fault();
        if (fault != NO_FAULT) {
            return FAULT - fault;
        }
        history.begin(levelReader.build(level));
        filledSlots = 0;
        search.forget();
        return level.blockCount();
    }

    public int readMoves() {
        int fault = faultOfMoves();
        if (fault != NO_FAULT) {
            return FAULT - fault;
        }
        int count = text.length / 2;
        if (history.made + count > MOST_MOVES) {
            return FULL;
        }
        for (int k = 0; k < count; k++) {
            int number = text.at(2 * k) - 'a';
            int kind = kindOfLetter(text.at(2 * k + 1));
            makeMove(number, kind, attempt(number, kind));
        }
        return count;
    }

    // ---- the level

    public int size(int what) {
        switch (what) {
            case 0:
                return level.yard.columns;
            case 1:
                return level.yard.rows;
            case 2:
                return level.blockCount();
            case 3:
                return level.strength;
            default:
                return BAD_VALUE;
        }
    }

    public int cell(int x, int y) {
        int cell = level.yard.cellAt(x, y);
        return cell < 0 ? NO_SUCH_CELL : level.yard.kinds[cell];
    }

    public int blockAt(int x, int y) {
        int cell = level.yard.cellAt(x, y);
        if (cell < 0) {
            return NO_SUCH_CELL;
        }
        mover.stand(history.present());
        for (int number = 0; number < BLOCKS; number++) {
            if (holds(mover.masks[number], cell)) {
                return number;
            }
        }
        return NONE;
    }

    public int block(int block, int what) {
        if (!level.has(block)) {
            return NO_SUCH_BLOCK;
        }
        if (what < 0 || what > 7) {
            return BAD_VALUE;
        }
        Block it = level.blocks[block];
        if (what >= 5) {
            return it.goalProperty(what - 5);
        }
        int placement = placementIn(history.present(), block);
        switch (what) {
            case 0:
                return columnOf(placement);
            case 1:
                return rowOf(placement);
            case 2:
                return orientationOf(placement);
            case 3:
                return it.weight;
            default:
                return it.cellCount;
        }
    }

    public int setWeight(int block, int weight) {
        if (!level.has(block)) {
            return NO_SUCH_BLOCK;
        }
        if (weight < 1 || weight > MOST_WEIGHT) {
            return BAD_VALUE;
        }
        int before = level.blocks[block].weight;
        level.blocks[block].weight = weight;
        search.forget();
        return before;
    }

    public int setGoal(int block, int x, int y, int orientation) {
        if (!level.has(block)) {
            return NO_SUCH_BLOCK;
        }
        int cell = level.yard.cellAt(x, y);
        if (cell < 0) {
            return NO_SUCH_CELL;
        }
        if (orientation < 0 || orientation > ANY_ORIENTATION) {
            return BAD_VALUE;
        }
        Block it = level.blocks[block];
        if (it.goalCell == cell && it.goalOrientation == orientation) {
            return 0;
        }
        it.aimAt(cell, orientation);
        it.measure(level.yard, level.queue);
        search.forget();
        return 1;
    }

    public int clearGoal(int block) {
        if (!level.has(block)) {
            return NO_SUCH_BLOCK;
        }
        if (!level.blocks[block].hasGoal()) {
            return 0;
        }
        level.blocks[block].dropGoal();
        search.forget();
        return 1;
    }

    public int setThreshold(int group, int threshold) {
        if (!isGroup(group) || threshold < 1 || threshold > MOST_LOAD) {
            return BAD_VALUE;
        }
        int before = level.thresholds[group];
        level.thresholds[group] = threshold;
        search.forget();
        return before;
    }

    public int setStrength(int strength) {
        if (strength < 1 || strength > MOST_LOAD) {
            return BAD_VALUE;
        }
        int before = level.strength;
        level.strength = strength;
        search.forget();
        return before;
    }

    public int load(int group) {
        if (!isGroup(group)) {
            return BAD_VALUE;
        }
        mover.stand(history.present());
        return mover.loadOf(group);
    }

    public int isOpen(int group) {
        if (!isGroup(group)) {
            return BAD_VALUE;
        }
        mover.stand(history.present());
        return mover.loadOf(group) >= level.thresholds[group] ? 1 : 0;
    }

    // ---- moves

    public int moved(int block, int kind) {
        if (!level.has(block)) {
            return NO_SUCH_BLOCK;
        }
        if (kind < 0 || kind >= KINDS) {
            return BAD_VALUE;
        }
        int set = attempt(block, kind);
        return set == 0 ? NOT_POSSIBLE : set;
    }

    public int move(int block, int kind) {
        int set = moved(block, kind);
        if (set < 0) {
            return set;
        }
        if (history.made >= MOST_MOVES) {
            return FULL;
        }
        makeMove(block, kind, set);
        return history.made;
    }

    public int possibleCount() {
        mover.stand(history.present());
        int count = 0;
        for (int number = 0; number < BLOCKS; number++) {
            for (int kind = 0; kind < KINDS; kind++) {
                if (mover.attempt(number, kind) != 0) {
                    count++;
                }
            }
        }
        return count;
    }

    public int possible(int k) {
        if (k < 0) {
            return BAD_VALUE;
        }
        mover.stand(history.present());
        int left = k;
        for (int number = 0; number < BLOCKS; number++) {
            for (int kind = 0; kind < KINDS; kind++) {
                if (mover.attempt(number, kind) != 0) {
                    if (left == 0) {
                        return moveCode(number, kind);
                    }
                    left--;
                }
            }
        }
        return NONE;
    }

    public int undo() {
        if (history.made == 0) {
            return NONE;
        }
        history.made--;
        return history.made;
    }

    public int redo() {
        if (history.made == history.known) {
            return NONE;
        }
        history.made++;
        return history.made;
    }

    public int moveAt(int k) {
        if (k < 0) {
            return BAD_VALUE;
        }
        return k < history.made ? history.moves[k] : NONE;
    }

    public int effort() {
        return history.efforts[history.made];
    }

    public int save(int slot) {
        if (!isSlot(slot)) {
            return BAD_VALUE;
        }
        boolean wasEmpty = isEmptySlot(slot);
        saved[slot] = history.present();
        filledSlots |= 1 << slot;
        return wasEmpty ? 1 : 0;
    }

    public int restore(int slot) {
        if (!isSlot(slot)) {
            return BAD_VALUE;
        }
        if (isEmptySlot(slot)) {
            return NONE;
        }
        long before = history.present();
        history.begin(saved[slot]);
        int changed = 0;
        for (int number = 0; number < BLOCKS; number++) {
            if (placementIn(before, number) != placementIn(saved[slot], number)) {
                changed++;
            }
        }
        return changed;
    }

    // ---- solving

    public int isSolved() {
        return level.boundOf(history.present()) == 0 ? 1 : 0;
    }

    public int isDead(int block, int x, int y, int orientation) {
        if (!level.has(block)) {
            return NO_SUCH_BLOCK;
        }
        int cell = level.yard.cellAt(x, y);
        if (cell < 0) {
            return NO_SUCH_CELL;
        }
        if (orientation < 0 || orientation >= ORIENTATIONS) {
            return BAD_VALUE;
        }
        Block it = level.blocks[block];
        int placement = CELLS * orientation + cell;
        if (!it.fits(placement)) {
            return NONE;
        }
        return it.distances[placement] < 0 ? 1 : 0;
    }

    public int deadCount(int block) {
        if (!level.has(block)) {
            return NO_SUCH_BLOCK;
        }
        Block it = level.blocks[block];
        int count = 0;
        for (int placement = 0; placement < PLACEMENTS; placement++) {
            if (it.fits(placement) && it.distances[placement] < 0) {
                count++;
            }
        }
        return count;
    }

    public int distance(int block) {
        if (!level.has(block)) {
            return NO_SUCH_BLOCK;
        }
        int distance = level.blocks[block].distances[placementIn(history.present(), block)];
        return distance < 0 ? NONE : distance;
    }

    public int lowerBound() {
        int bound = level.boundOf(history.present());
        return bound < 0 ? NONE : bound;
    }

    public int solve() {
        return search.solutionLength(history.present());
    }

    public int solution(int k) {
        if (k < 0) {
            return BAD_VALUE;
        }
        int length = search.solutionLength(history.present());
        if (length == GIVEN_UP) {
            return GIVEN_UP;
        }
        return k < length ? search.solutionMoves[k] : NONE;
    }

    public int reachable(int moves) {
        if (moves < 0 || moves > MOST_STEPS) {
            return BAD_VALUE;
        }
        return search.countWithin(history.present(), moves);
    }

    /** The set of the blocks that the move would move now, 0 if it is not possible. */
    private int attempt(int number, int kind) {
        mover.stand(history.present());
        return mover.attempt(number, kind);
    }

    /** Makes the move that was attempted last, which moves the blocks of the set. */
    private void makeMove(int number, int kind, int set) {
        history.add(moveCode(number, kind), level.weightOf(set), mover.result);
    }

    private int faultOfMoves() {
        mover.stand(history.present());
        for (int at = 0; at < text.length; at += 2) {
            int number = text.at(at) - 'a';
            if (!level.has(number)) {
                return at;
            }
            int kind = kindOfLetter(text.at(at + 1));
            if (kind < 0 || mover.attempt(number, kind) == 0) {
                return at + 1;
            }
            mover.stand(mover.result);
        }
        return NO_FAULT;
    }

    private boolean isEmptySlot(int slot) {
        return ((filledSlots >> slot) & 1) == 0;
    }

    private static boolean isSlot(int slot) {
        return slot >= 0 && slot < SLOTS;
    }

    private static boolean isGroup(int group) {
        return group >= 0 && group < GROUPS;
    }

    private static int kindOfLetter(char letter) {
        return placeOf(letter, KIND_LETTERS);
    }

    private static int placeOf(char sign, char[] signs) {
        for (int place = 0; place < signs.length; place++) {
            if (signs[place] == sign) {
                return place;
            }
        }
        return -1;
    }

    private static int moveCode(int number, int kind) {
        return 10 * number + kind;
    }

    private static boolean holds(long cells, int cell) {
        return ((cells >>> cell) & 1L) != 0L;
    }

    private static int columnOf(int placement) {
        return placement & 7;
    }

    private static int rowOf(int placement) {
        return (placement >> 3) & 7;
    }

    private static int orientationOf(int placement) {
        return (placement >> 6) & 3;
    }

    private static int placementIn(long arrangement, int number) {
        return (int) (arrangement >>> (8 * number)) & 255;
    }

    private static long withPlacement(long arrangement, int number, int placement) {
        int shift = 8 * number;
        return (arrangement & ~(255L << shift)) | ((long) placement << shift);
    }

    private static final class Text {
        private final char[] signs = new char[MOST_SIGNS];
        int length = 0;

        boolean append(char sign) {
            if (length >= MOST_SIGNS) {
                return false;
            }
            signs[length] = sign;
            length++;
            return true;
        }

        /** The sign there; behind the end a sign that no text allows, so that readers find the fault there. */
        char at(int index) {
            return index >= 0 && index < length ? signs[index] : (char) 0;
        }
    }

    private static final class Yard {
        private static final int[] STEP_X = {1, 0, -1, 0};
        private static final int[] STEP_Y = {0, 1, 0, -1};
        private static final int WALL = 1;
        private static final int FIRST_ONE_WAY = 2;
        private static final int FIRST_PLATE = 6;
        private static final int FIRST_GATE = 10;

        int columns = LEAST_SIDE;
        int rows = LEAST_SIDE;
        final int[] kinds = new int[CELLS];
        long walls = 0L;
        long oneWays = 0L;
        final long[] oneWaysFor = new long[PUSHES];
        final long[] plates = new long[GROUPS];
        final long[] gates = new long[GROUPS];

        void clear(int newColumns, int newRows) {
            columns = newColumns;
            rows = newRows;
            walls = 0L;
            oneWays = 0L;
            Arrays.fill(kinds, 0);
            Arrays.fill(oneWaysFor, 0L);
            Arrays.fill(plates, 0L);
            Arrays.fill(gates, 0L);
        }

        void put(int cell, int kind) {
            long bit = 1L << cell;
            kinds[cell] = kind;
            if (kind >= FIRST_GATE) {
                gates[kind - FIRST_GATE] |= bit;
            } else if (kind >= FIRST_PLATE) {
                plates[kind - FIRST_PLATE] |= bit;
            } else if (kind >= FIRST_ONE_WAY) {
                oneWaysFor[kind - FIRST_ONE_WAY] |= bit;
                oneWays |= bit;
            } else if (kind == WALL) {
                walls |= bit;
            }
        }

        /** The cell's number, -1 if it is not in the yard. */
        int cellAt(int x, int y) {
            return x >= 0 && x < columns && y >= 0 && y < rows ? MOST_SIDE * y + x : -1;
        }

        /** The placement that a move leads to if nothing is in the way, -1 if its pivot is not in the yard. */
        int shifted(int placement, int kind) {
            if (kind >= PUSHES) {
                int quarters = kind == CLOCKWISE ? 1 : 3;
                return (placement + CELLS * quarters) & (PLACEMENTS - 1);
            }
            // columnOf, rowOf and cellAt are written out, as the search's calls are eight deep here already
            int x = (placement & 7) + STEP_X[kind];
            int y = ((placement >> 3) & 7) + STEP_Y[kind];
            boolean isInYard = x >= 0 && x < columns && y >= 0 && y < rows;
            return isInYard ? placement + STEP_X[kind] + MOST_SIDE * STEP_Y[kind] : -1;
        }
    }

    private static final class Block {
        private static final int NO_GOAL = -1;

        /** The offsets of the cells from the pivot, five places for each orientation. */
        private final int[] offsetX = new int[ORIENTATIONS * BLOCK_CELLS];
        private final int[] offsetY = new int[ORIENTATIONS * BLOCK_CELLS];
        /** The cells of the block in each placement; empty where the block does not fit. */
        final long[] cells = new long[PLACEMENTS];
        /** The distance from each placement to the goal alone, -1 if it is dead, 0 everywhere without a goal. */
        final int[] distances = new int[PLACEMENTS];
        int cellCount = 0;
        int weight = 1;
        int goalCell = NO_GOAL;
        int goalOrientation = ANY_ORIENTATION;

        void clear() {
            cellCount = 0;
            weight = 1;
            dropGoal();
        }

        boolean hasGoal() {
            return goalCell != NO_GOAL;
        }

        void aimAt(int cell, int orientation) {
            goalCell = cell;
            goalOrientation = orientation;
        }

        void dropGoal() {
            goalCell = NO_GOAL;
            goalOrientation = ANY_ORIENTATION;
            Arrays.fill(distances, 0);
        }

        /** 0 for x, 1 for y and 2 for the orientation of the goal. */
        int goalProperty(int what) {
            if (!hasGoal()) {
                return NONE;
            }
            if (what == 2) {
                return goalOrientation;
            }
            return what == 0 ? columnOf(goalCell) : rowOf(goalCell);
        }

        boolean fits(int placement) {
            return cells[placement] != 0L;
        }

        void addCell(int a, int b) {
            if (cellCount >= BLOCK_CELLS) {
                return;
            }
            int x = a;
            int y = b;
            for (int orientation = 0; orientation < ORIENTATIONS; orientation++) {
                offsetX[BLOCK_CELLS * orientation + cellCount] = x;
                offsetY[BLOCK_CELLS * orientation + cellCount] = y;
                int turnedX = -y;
                y = x;
                x = turnedX;
            }
            cellCount++;
        }

        void findPlacements(Yard yard) {
            for (int placement = 0; placement < PLACEMENTS; placement++) {
                cells[placement] = cellsIn(yard, placement);
            }
        }

        private long cellsIn(Yard yard, int placement) {
            int first = BLOCK_CELLS * orientationOf(placement);
            long found = 0L;
            for (int at = first; at < first + cellCount; at++) {
                int cell = yard.cellAt(columnOf(placement) + offsetX[at], rowOf(placement) + offsetY[at]);
                if (cell < 0 || holds(yard.walls, cell)) {
                    return 0L;
                }
                found |= 1L << cell;
            }
            return found;
        }

        /** The placement behind a push of this block, -1 if the ground or one of the barred cells forbids it. */
        int afterPush(Yard yard, int placement, int direction, long barred) {
            int next = yard.shifted(placement, direction);
            if (next < 0 || !fits(next)) {
                return -1;
            }
            long forbidden = barred | (yard.oneWays & ~yard.oneWaysFor[direction]);
            return (cells[next] & forbidden) == 0L ? next : -1;
        }

        /** The placement behind a turn of this block, -1 if the ground or one of the barred cells forbids it. */
        int afterTurn(Yard yard, int placement, int kind, long barred) {
            int first = BLOCK_CELLS * orientationOf(placement);
            long forbidden = barred | yard.walls | yard.oneWays;
            // a turn counterclockwise is one clockwise in the yard turned upside down
            int sense = kind == CLOCKWISE ? 1 : -1;
            for (int at = first; at < first + cellCount; at++) {
                if (!sweepIsClear(yard, placement, offsetX[at], sense * offsetY[at], sense, forbidden)) {
                    return -1;
                }
            }
            return yard.shifted(placement, kind);
        }

        /** Goes along the ring from the offset (a, b), clockwise if rows count by the sense, for a quarter of it. */
        private static boolean sweepIsClear(Yard yard, int placement, int a, int b, int sense, long forbidden) {
            int radius = Math.max(Math.abs(a), Math.abs(b));
            int x = a;
            int y = b;
            for (int step = 0; step < 2 * radius; step++) {
                if (y == -radius && x < radius) {
                    x++;
                } else if (x == radius && y < radius) {
                    y++;
                } else if (y == radius && x > -radius) {
                    x--;
                } else {
                    y--;
                }
                int cell = yard.cellAt(columnOf(placement) + x, rowOf(placement) + sense * y);
                if (cell < 0 || holds(forbidden, cell)) {
                    return false;
                }
            }
            return true;
        }

        /** Finds all distances to the goal, going backwards from it. The queue has room for all placements. */
        void measure(Yard yard, int[] queue) {
            Arrays.fill(distances, -1);
            int queued = 0;
            for (int orientation = 0; orientation < ORIENTATIONS; orientation++) {
                int placement = CELLS * orientation + goalCell;
                boolean wanted = goalOrientation == ANY_ORIENTATION || goalOrientation == orientation;
                if (wanted && fits(placement)) {
                    distances[placement] = 0;
                    queue[queued] = placement;
                    queued++;
                }
            }
            for (int at = 0; at < queued && at < PLACEMENTS; at++) {
                for (int kind = 0; kind < KINDS; kind++) {
                    int before = placementBefore(yard, queue[at], kind);
                    if (before >= 0 && distances[before] < 0) {
                        distances[before] = distances[queue[at]] + 1;
                        queue[queued] = before;
                        queued++;
                    }
                }
            }
        }

        /** The placement from which a move alone leads to this one, -1 if there is none. */
        private int placementBefore(Yard yard, int placement, int kind) {
            boolean isPush = kind < PUSHES;
            int before = yard.shifted(placement, isPush ? kind ^ 2 : kind ^ 1);
            if (before < 0 || !fits(before)) {
                return -1;
            }
            int after = isPush ? afterPush(yard, before, kind, 0L) : afterTurn(yard, before, kind, 0L);
            return after < 0 ? -1 : before;
        }
    }

    private static final class Level {
        final Yard yard = new Yard();
        final Block[] blocks = new Block[BLOCKS];
        final int[] thresholds = new int[GROUPS];
        int strength = MOST_LOAD;
        final int[] queue = new int[PLACEMENTS];

        Level() {
            for (int number = 0; number < BLOCKS; number++) {
                blocks[number] = new Block();
            }
            Arrays.fill(thresholds, 1);
        }

        void clear(int columns, int rows) {
            yard.clear(columns, rows);
            for (int number = 0; number < BLOCKS; number++) {
                blocks[number].clear();
            }
        }

        boolean has(int number) {
            return number >= 0 && number < BLOCKS && blocks[number].cellCount > 0;
        }

        int blockCount() {
            int count = 0;
            for (int number = 0; number < BLOCKS; number++) {
                if (has(number)) {
                    count++;
                }
            }
            return count;
        }

        int weightOf(int set) {
            int sum = 0;
            for (int number = 0; number < BLOCKS; number++) {
                if (((set >> number) & 1) != 0) {
                    sum += blocks[number].weight;
                }
            }
            return sum;
        }

        /** The greatest distance of a block, so 0 if the arrangement is solved; -1 if some placement is dead. */
        int boundOf(long arrangement) {
            int bound = 0;
            for (int number = 0; number < BLOCKS; number++) {
                int distance = blocks[number].distances[placementIn(arrangement, number)];
                if (distance < 0) {
                    return -1;
                }
                bound = Math.max(bound, distance);
            }
            return bound;
        }
    }

    /** Looks for the fault of a level's text and, if there is none, builds the level from it. */
    private static final class LevelReader {
        private static final char[] GROUND = {'.', '#', '>', 'v', '<', '^', '0', '1', '2', '3', 'w', 'x', 'y', 'z'};
        private static final int NO_PIVOT = -1;

        private final Text text;
        private final int[] cellCounts = new int[BLOCKS];
        private final int[] firstPlaces = new int[BLOCKS];
        private final int[] pivots = new int[BLOCKS];
        private int columns = 0;
        private int row = 0;
        private int column = 0;

        LevelReader(Text text) {
            this.text = text;
        }

        int fault() {
            Arrays.fill(cellCounts, 0);
            Arrays.fill(pivots, NO_PIVOT);
            columns = MOST_SIDE;
            row = 0;
            column = 0;
            for (int at = 0; at < text.length; at++) {
                char sign = text.at(at);
                boolean allowed = sign == '/' ? endRow() : addCell(sign, at);
                if (!allowed) {
                    return at;
                }
            }
            boolean complete = row + 1 >= LEAST_SIDE && column == columns;
            return complete ? faultOfPivots() : text.length;
        }

        private boolean endRow() {
            boolean complete = row == 0 ? column >= LEAST_SIDE : column == columns;
            if (!complete || row + 1 >= MOST_SIDE) {
                return false;
            }
            // the first row tells how long the others are
            columns = column;
            row++;
            column = 0;
            return true;
        }

        private boolean addCell(char sign, int at) {
            if (column >= columns) {
                return false;
            }
            int number = blockOf(sign);
            boolean allowed = number < 0 ? groundOf(sign) >= 0 : addBlockCell(number, isPivot(sign), at);
            column++;
            return allowed;
        }

        private boolean addBlockCell(int number, boolean isPivot, int at) {
            if (cellCounts[number] >= BLOCK_CELLS || (isPivot && pivots[number] != NO_PIVOT)) {
                return false;
            }
            if (cellCounts[number] == 0) {
                firstPlaces[number] = at;
            }
            if (isPivot) {
                pivots[number] = MOST_SIDE * row + column;
            }
            cellCounts[number]++;
            return true;
        }

        private int faultOfPivots() {
            int fault = NO_FAULT;
            for (int number = 0; number < BLOCKS; number++) {
                boolean lacksPivot = cellCounts[number] > 0 && pivots[number] == NO_PIVOT;
                if (lacksPivot && (fault == NO_FAULT || firstPlaces[number] < fault)) {
                    fault = firstPlaces[number];
                }
            }
            return fault;
        }

        /** Builds the level of the text, in which no fault has been found, and answers its arrangement. */
        long build(Level level) {
            level.clear(columns, row + 1);
            for (int y = 0; y <= row; y++) {
                for (int x = 0; x < columns; x++) {
                    buildCell(level, x, y);
                }
            }
            long arrangement = 0L;
            for (int number = 0; number < BLOCKS; number++) {
                if (pivots[number] != NO_PIVOT) {
                    level.blocks[number].findPlacements(level.yard);
                    arrangement = withPlacement(arrangement, number, pivots[number]);
                }
            }
            return arrangement;
        }

        private void buildCell(Level level, int x, int y) {
            char sign = text.at((columns + 1) * y + x);
            int number = blockOf(sign);
            if (number < 0) {
                level.yard.put(MOST_SIDE * y + x, groundOf(sign));
            } else {
                level.blocks[number].addCell(x - columnOf(pivots[number]), y - rowOf(pivots[number]));
            }
        }

        private static int groundOf(char sign) {
            return placeOf(sign, GROUND);
        }

        private static boolean isPivot(char sign) {
            return sign >= 'A' && sign < 'A' + BLOCKS;
        }

        private static int blockOf(char sign) {
            if (isPivot(sign)) {
                return sign - 'A';
            }
            return sign >= 'a' && sign < 'a' + BLOCKS ? sign - 'a' : -1;
        }
    }

    /** Tells what the moves do in the arrangement on which it stands. */
    private static final class Mover {
        private final Level level;
        private final int[] placements = new int[BLOCKS];
        private final int[] pushed = new int[BLOCKS];
        /** The cells of each block, none for one that does not exist. */
        final long[] masks = new long[BLOCKS];
        private long arrangement = 0L;
        private long occupied = 0L;
        private long closedGates = 0L;
        /** The arrangement behind the last attempt that was possible. */
        long result = 0L;

        Mover(Level level) {
            this.level = level;
        }

        void stand(long newArrangement) {
            arrangement = newArrangement;
            occupied = 0L;
            for (int number = 0; number < BLOCKS; number++) {
                placements[number] = placementIn(arrangement, number);
                masks[number] = level.has(number) ? level.blocks[number].cells[placements[number]] : 0L;
                occupied |= masks[number];
            }
            closedGates = 0L;
            for (int group = 0; group < GROUPS; group++) {
                if (level.yard.gates[group] != 0L && loadOf(group) < level.thresholds[group]) {
                    closedGates |= level.yard.gates[group];
                }
            }
        }

        int loadOf(int group) {
            int sum = 0;
            for (int number = 0; number < BLOCKS; number++) {
                if ((masks[number] & level.yard.plates[group]) != 0L) {
                    sum += level.blocks[number].weight;
                }
            }
            return sum;
        }

        /** The set of the blocks that the move would move, 0 if it is not possible. */
        int attempt(int number, int kind) {
            if (!level.has(number)) {
                return 0;
            }
            if (kind < PUSHES) {
                return push(number, kind);
            }
            long barred = (closedGates | occupied) & ~masks[number];
            int next = level.blocks[number].afterTurn(level.yard, placements[number], kind, barred);
            if (next < 0) {
                return 0;
            }
            result = withPlacement(arrangement, number, next);
            return 1 << number;
        }

        private int push(int first, int direction) {
            int set = 1 << first;
            int count = 1;
            int weight = 0;
            long behind = arrangement;
            pushed[0] = first;
            for (int at = 0; at < count && at < BLOCKS; at++) {
                int number = pushed[at];
                Block block = level.blocks[number];
                long barred = closedGates & ~masks[number];
                int next = block.afterPush(level.yard, placements[number], direction, barred);
                weight += block.weight;
                if (next < 0 || weight > level.strength) {
                    return 0;
                }
                behind = withPlacement(behind, number, next);
                for (int other = 0; other < BLOCKS; other++) {
                    boolean waits = ((set >> other) & 1) == 0;
                    if (waits && count < BLOCKS && (masks[other] & block.cells[next]) != 0L) {
                        set |= 1 << other;
                        pushed[count] = other;
                        count++;
                    }
                }
            }
            result = behind;
            return set;
        }
    }

    /** The moves that have been made and, behind them, those that have been undone. */
    private static final class History {
        private final long[] arrangements = new long[MOST_MOVES + 1];
        final int[] moves = new int[MOST_MOVES];
        /** The effort of the first k moves, for each k. */
        final int[] efforts = new int[MOST_MOVES + 1];
        int made = 0;
        int known = 0;

        void begin(long arrangement) {
            arrangements[0] = arrangement;
            made = 0;
            known = 0;
        }

        long present() {
            return arrangements[made];
        }

        void add(int move, int effort, long arrangement) {
            if (made >= MOST_MOVES) {
                return;
            }
            moves[made] = move;
            efforts[made + 1] = efforts[made] + effort;
            arrangements[made + 1] = arrangement;
            made++;
            known = made;
        }
    }

    /** Goes through the arrangements that can be reached from one, in a list. */
    private static final class Search {
        private static final int TABLE_BITS = 11;
        private static final int TABLE_SIZE = 1 << TABLE_BITS;
        private static final long SPREADER = 0x9E3779B97F4A7C15L;
        private static final int GO_ON = 0;
        private static final int FOUND = 1;

        private final Level level;
        private final Mover mover;
        private final long[] list = new long[MOST_LISTED];
        /** For each arrangement of the list the place of the one before it, and the move that led to it. */
        private final int[] origins = new int[MOST_LISTED];
        private final int[] leadingMoves = new int[MOST_LISTED];
        private int listed = 0;
        /** A hash table of the list: 1 + the place in the list, 0 where it is free. */
        private final int[] table = new int[TABLE_SIZE];

        /** The answer for the arrangement that was solved last, kept as solution() is asked move by move. */
        final int[] solutionMoves = new int[MOST_LISTED];
        private int solutionResult = 0;
        private long solutionStart = 0L;
        private boolean solutionIsKnown = false;

        Search(Level level) {
            this.level = level;
            this.mover = new Mover(level);
        }

        void forget() {
            solutionIsKnown = false;
        }

        /** The number of the moves of the solution, GIVEN_UP or NONE. */
        int solutionLength(long start) {
            if (!solutionIsKnown || solutionStart != start) {
                solutionResult = findSolution(start);
                solutionStart = start;
                solutionIsKnown = true;
            }
            return solutionResult;
        }

        private int findSolution(long start) {
            int bound = level.boundOf(start);
            if (bound <= 0) {
                return bound < 0 ? NONE : 0;
            }
            begin(start);
            for (int at = 0; at < listed && at < MOST_LISTED; at++) {
                int outcome = spread(at, true);
                if (outcome != GO_ON) {
                    return outcome == FOUND ? traceSolution() : GIVEN_UP;
                }
            }
            return NONE;
        }

        /** Writes down the moves that led to the last arrangement of the list, and answers how many they are. */
        private int traceSolution() {
            int length = 0;
            int place = listed - 1;
            for (int k = 0; k < MOST_LISTED && place > 0; k++) {
                length++;
                place = origins[place];
            }
            place = listed - 1;
            for (int k = length - 1; k >= 0; k--) {
                solutionMoves[k] = leadingMoves[place];
                place = origins[place];
            }
            return length;
        }

        /** How many arrangements can be reached from the start with so many moves, or GIVEN_UP. */
        int countWithin(long start, int moves) {
            begin(start);
            int from = 0;
            for (int step = 0; step < moves; step++) {
                int until = listed;
                for (int at = from; at < until; at++) {
                    if (spread(at, false) != GO_ON) {
                        return GIVEN_UP;
                    }
                }
                from = until;
            }
            return listed;
        }

        private void begin(long start) {
            Arrays.fill(table, 0);
            listed = 0;
            append(freePlaceFor(start), start, 0, 0);
        }

        /** Appends what the moves from an arrangement of the list lead to; with solving, until that is solved. */
        private int spread(int at, boolean solving) {
            mover.stand(list[at]);
            for (int number = 0; number < BLOCKS; number++) {
                for (int kind = 0; kind < KINDS; kind++) {
                    if (mover.attempt(number, kind) == 0) {
                        continue;
                    }
                    long next = mover.result;
                    int place = freePlaceFor(next);
                    int bound = solving ? level.boundOf(next) : 1;
                    if (place < 0 || bound < 0) {
                        continue;
                    }
                    if (listed >= MOST_LISTED) {
                        return GIVEN_UP;
                    }
                    append(place, next, at, moveCode(number, kind));
                    if (bound == 0) {
                        return FOUND;
                    }
                }
            }
            return GO_ON;
        }

        private void append(int tablePlace, long arrangement, int origin, int move) {
            list[listed] = arrangement;
            origins[listed] = origin;
            leadingMoves[listed] = move;
            listed++;
            table[tablePlace] = listed;
        }

        /** The place of the table where the arrangement can be entered, -1 if it is in the list. */
        private int freePlaceFor(long arrangement) {
            int place = (int) ((arrangement * SPREADER) >>> (64 - TABLE_BITS));
            for (int tries = 0; tries < TABLE_SIZE; tries++) {
                int entry = table[place];
                if (entry == 0) {
                    return place;
                }
                if (list[entry - 1] == arrangement) {
                    return -1;
                }
                place = (place + 1) & (TABLE_SIZE - 1);
            }
            return -1;
        }
    }
}
