import java.util.ArrayDeque;
import java.util.ArrayList;
import java.util.Deque;
import java.util.HashMap;
import java.util.HashSet;
import java.util.LinkedHashMap;
import java.util.List;
import java.util.Map;
import java.util.Set;
import java.util.TreeMap;

/**
 * The document once more, word by word and as slow as it may be: lists and maps of points instead of bits, nothing
 * kept from call to call. ModelTest compares it with BlockYard; it shares no code with it.
 */
final class PlainYard {
    record Point(int x, int y) {
        Point plus(int dx, int dy) {
            return new Point(x + dx, y + dy);
        }
    }

    record Placement(Point pivot, int orientation) {
    }

    record Goal(Point pivot, int orientation) {
    }

    record Made(int move, int effort, Map<Integer, Placement> before, Map<Integer, Placement> after) {
    }

    record Step(Map<Integer, Placement> from, int move) {
    }

    record Outcome(int answer, List<Integer> moves) {
    }

    private static final int[] DX = {1, 0, -1, 0};
    private static final int[] DY = {0, 1, 0, -1};

    private String text = "";
    private int columns = 3;
    private int rows = 3;
    private Map<Point, Integer> ground = new HashMap<>();
    private Map<Integer, List<Point>> offsets = new TreeMap<>();
    private Map<Integer, Integer> weights = new TreeMap<>();
    private Map<Integer, Goal> goals = new TreeMap<>();
    private Map<Integer, Placement> now = new TreeMap<>();
    private Deque<Made> made = new ArrayDeque<>();
    private Deque<Made> undone = new ArrayDeque<>();
    private final Map<Integer, Map<Integer, Placement>> slots = new HashMap<>();
    private final int[] thresholds = {1, 1, 1, 1};
    private int strength = 45;

    PlainYard() {
        for (int y = 0; y < 3; y++) {
            for (int x = 0; x < 3; x++) {
                ground.put(new Point(x, y), 0);
            }
        }
    }

    // ---- texts

    int type(char character) {
        if (text.length() == 80) {
            return -5;
        }
        text += character;
        return text.length();
    }

    int clearText() {
        int length = text.length();
        text = "";
        return length;
    }

    /** Whether a text that begins so could be a level if only characters are added: no fault but its end. */
    private static boolean canBegin(String start) {
        String[] parts = start.split("/", -1);
        if (parts.length > 8) {
            return false;
        }
        for (int k = 0; k < parts.length; k++) {
            boolean last = k == parts.length - 1;
            int width = parts[k].length();
            if (width > 8 || k == 0 && !last && width < 3) {
                return false;
            }
            if (k > 0 && (width > parts[0].length() || !last && width < parts[0].length())) {
                return false;
            }
        }
        for (char sign : start.toCharArray()) {
            if (".#><^v/0123wxyzabcdeABCDE".indexOf(sign) < 0) {
                return false;
            }
        }
        for (char letter = 'a'; letter <= 'e'; letter++) {
            char pivot = Character.toUpperCase(letter);
            char cell = letter;
            if (start.chars().filter(c -> c == pivot).count() > 1) {
                return false;
            }
            if (start.chars().filter(c -> c == pivot || c == cell).count() > 5) {
                return false;
            }
        }
        return true;
    }

    private int levelFault() {
        for (int k = 0; k < text.length(); k++) {
            if (!canBegin(text.substring(0, k + 1))) {
                return k;
            }
        }
        String[] parts = text.split("/", -1);
        if (parts.length < 3 || parts[parts.length - 1].length() != parts[0].length()) {
            return text.length();
        }
        for (int k = 0; k < text.length(); k++) {
            char sign = text.charAt(k);
            if (sign >= 'a' && sign <= 'e' && text.indexOf(Character.toUpperCase(sign)) < 0) {
                return k;
            }
        }
        return -1;
    }

    int readLevel() {
        int fault = levelFault();
        if (fault >= 0) {
            return -100 - fault;
        }
        String[] parts = text.split("/");
        columns = parts[0].length();
        rows = parts.length;
        ground = new HashMap<>();
        offsets = new TreeMap<>();
        weights = new TreeMap<>();
        goals = new TreeMap<>();
        now = new TreeMap<>();
        Map<Integer, List<Point>> cells = new TreeMap<>();
        for (int y = 0; y < rows; y++) {
            for (int x = 0; x < columns; x++) {
                char sign = parts[y].charAt(x);
                int block = "abcde".indexOf(Character.toLowerCase(sign));
                ground.put(new Point(x, y), block >= 0 ? 0 : ".#>v<^0123wxyz".indexOf(sign));
                if (block >= 0) {
                    cells.computeIfAbsent(block, b -> new ArrayList<>()).add(new Point(x, y));
                    if (Character.isUpperCase(sign)) {
                        now.put(block, new Placement(new Point(x, y), 0));
                    }
                }
            }
        }
        for (int block : cells.keySet()) {
            Point pivot = now.get(block).pivot();
            List<Point> relative = new ArrayList<>();
            for (Point cell : cells.get(block)) {
                relative.add(cell.plus(-pivot.x(), -pivot.y()));
            }
            offsets.put(block, relative);
            weights.put(block, 1);
        }
        made.clear();
        undone.clear();
        slots.clear();
        return now.size();
    }

    int readMoves() {
        Map<Integer, Placement> at = now;
        List<Integer> moves = new ArrayList<>();
        for (int k = 0; k < text.length(); k++) {
            char letter = text.charAt(k);
            if (k % 2 == 0) {
                if (letter < 'a' || letter > 'e' || !now.containsKey(letter - 'a')) {
                    return -100 - k;
                }
            } else {
                int block = text.charAt(k - 1) - 'a';
                int kind = "rdluts".indexOf(letter);
                Map<Integer, Placement> next = kind < 0 ? null : after(at, block, kind);
                if (next == null) {
                    return -100 - k;
                }
                at = next;
                moves.add(10 * block + kind);
            }
        }
        if (text.length() % 2 == 1) {
            return -100 - text.length();
        }
        if (made.size() + moves.size() > 200) {
            return -5;
        }
        for (int move : moves) {
            move(move / 10, move % 10);
        }
        return moves.size();
    }

    // ---- the level

    int size(int what) {
        return switch (what) {
            case 0 -> columns;
            case 1 -> rows;
            case 2 -> now.size();
            case 3 -> strength;
            default -> -3;
        };
    }

    int cell(int x, int y) {
        return ground.getOrDefault(new Point(x, y), -2);
    }

    int blockAt(int x, int y) {
        Point point = new Point(x, y);
        if (!ground.containsKey(point)) {
            return -2;
        }
        for (int block : now.keySet()) {
            if (cellsOf(block, now.get(block)).contains(point)) {
                return block;
            }
        }
        return -7;
    }

    int block(int block, int what) {
        if (!now.containsKey(block)) {
            return -1;
        }
        if (what < 0 || what > 7) {
            return -3;
        }
        Goal goal = goals.get(block);
        if (what > 4 && goal == null) {
            return -7;
        }
        return switch (what) {
            case 0 -> now.get(block).pivot().x();
            case 1 -> now.get(block).pivot().y();
            case 2 -> now.get(block).orientation();
            case 3 -> weights.get(block);
            case 4 -> offsets.get(block).size();
            case 5 -> goal.pivot().x();
            case 6 -> goal.pivot().y();
            default -> goal.orientation();
        };
    }

    int setWeight(int block, int weight) {
        if (!now.containsKey(block)) {
            return -1;
        }
        return weight < 1 || weight > 9 ? -3 : weights.put(block, weight);
    }

    int setGoal(int block, int x, int y, int orientation) {
        if (!now.containsKey(block)) {
            return -1;
        }
        if (!ground.containsKey(new Point(x, y))) {
            return -2;
        }
        if (orientation < 0 || orientation > 4) {
            return -3;
        }
        Goal goal = new Goal(new Point(x, y), orientation);
        return goal.equals(goals.put(block, goal)) ? 0 : 1;
    }

    int clearGoal(int block) {
        if (!now.containsKey(block)) {
            return -1;
        }
        return goals.remove(block) == null ? 0 : 1;
    }

    int setThreshold(int group, int threshold) {
        if (group < 0 || group > 3 || threshold < 1 || threshold > 45) {
            return -3;
        }
        int before = thresholds[group];
        thresholds[group] = threshold;
        return before;
    }

    int setStrength(int newStrength) {
        if (newStrength < 1 || newStrength > 45) {
            return -3;
        }
        int before = strength;
        strength = newStrength;
        return before;
    }

    int load(int group) {
        return group < 0 || group > 3 ? -3 : loadIn(now, group);
    }

    int isOpen(int group) {
        if (group < 0 || group > 3) {
            return -3;
        }
        return loadIn(now, group) >= thresholds[group] ? 1 : 0;
    }

    private int loadIn(Map<Integer, Placement> at, int group) {
        int sum = 0;
        for (int block : at.keySet()) {
            if (cellsOf(block, at.get(block)).stream().anyMatch(p -> ground.get(p) == 6 + group)) {
                sum += weights.get(block);
            }
        }
        return sum;
    }

    // ---- the rules of the moves

    private static Point turned(Point offset) {
        return new Point(-offset.y(), offset.x());
    }

    private List<Point> offsetsOf(int block, int orientation) {
        List<Point> result = new ArrayList<>();
        for (Point offset : offsets.get(block)) {
            Point point = offset;
            for (int k = 0; k < orientation; k++) {
                point = turned(point);
            }
            result.add(point);
        }
        return result;
    }

    private List<Point> cellsOf(int block, Placement placement) {
        List<Point> result = new ArrayList<>();
        for (Point offset : offsetsOf(block, placement.orientation())) {
            result.add(placement.pivot().plus(offset.x(), offset.y()));
        }
        return result;
    }

    private boolean passable(Map<Integer, Placement> at, int block, Point point, boolean gatesOpen) {
        if (!ground.containsKey(point) || ground.get(point) == 1) {
            return false;
        }
        int kind = ground.get(point);
        if (kind < 10 || gatesOpen) {
            return true;
        }
        return loadIn(at, kind - 10) >= thresholds[kind - 10] || cellsOf(block, at.get(block)).contains(point);
    }

    /** All offsets of a ring, clockwise from its upper left corner. */
    private static List<Point> ring(int radius) {
        List<Point> result = new ArrayList<>();
        for (int x = -radius; x < radius; x++) {
            result.add(new Point(x, -radius));
        }
        for (int y = -radius; y < radius; y++) {
            result.add(new Point(radius, y));
        }
        for (int x = radius; x > -radius; x--) {
            result.add(new Point(x, radius));
        }
        for (int y = radius; y > -radius; y--) {
            result.add(new Point(-radius, y));
        }
        return result;
    }

    /** The cells that the block passes in a turn. */
    private Set<Point> passed(int block, Placement placement, boolean clockwise) {
        Set<Point> result = new HashSet<>();
        for (Point offset : offsetsOf(block, placement.orientation())) {
            int radius = Math.max(Math.abs(offset.x()), Math.abs(offset.y()));
            List<Point> ring = ring(radius);
            int place = ring.indexOf(offset);
            for (int k = 1; k <= 2 * radius; k++) {
                Point next = ring.get(Math.floorMod(clockwise ? place + k : place - k, ring.size()));
                result.add(placement.pivot().plus(next.x(), next.y()));
            }
        }
        return result;
    }

    private Set<Integer> pushedBy(Map<Integer, Placement> at, int first, int direction) {
        Set<Integer> moved = new HashSet<>(Set.of(first));
        boolean grows = true;
        while (grows) {
            grows = false;
            for (int other : at.keySet()) {
                for (int block : List.copyOf(moved)) {
                    for (Point cell : cellsOf(block, at.get(block))) {
                        Point next = cell.plus(DX[direction], DY[direction]);
                        grows |= cellsOf(other, at.get(other)).contains(next) && moved.add(other);
                    }
                }
            }
        }
        return moved;
    }

    /** The arrangement behind a move, null if it is not possible. */
    private Map<Integer, Placement> after(Map<Integer, Placement> at, int block, int kind) {
        return after(at, block, kind, false);
    }

    private Map<Integer, Placement> after(Map<Integer, Placement> at, int first, int kind, boolean alone) {
        Map<Integer, Placement> result = new TreeMap<>(at);
        if (kind >= 4) {
            Placement placement = at.get(first);
            for (Point point : passed(first, placement, kind == 4)) {
                if (!passable(at, first, point, alone) || ground.get(point) >= 2 && ground.get(point) <= 5) {
                    return null;
                }
                for (int other : at.keySet()) {
                    if (other != first && cellsOf(other, at.get(other)).contains(point)) {
                        return null;
                    }
                }
            }
            result.put(first, new Placement(placement.pivot(), (placement.orientation() + (kind == 4 ? 1 : 3)) % 4));
            return result;
        }
        int weight = 0;
        for (int block : pushedBy(at, first, kind)) {
            weight += weights.get(block);
            Placement placement = at.get(block);
            Placement next = new Placement(placement.pivot().plus(DX[kind], DY[kind]), placement.orientation());
            for (Point point : cellsOf(block, next)) {
                if (!passable(at, block, point, alone)) {
                    return null;
                }
                if (ground.get(point) >= 2 && ground.get(point) <= 5 && ground.get(point) != 2 + kind) {
                    return null;
                }
            }
            result.put(block, next);
        }
        return weight > strength && !alone ? null : result;
    }

    private Set<Integer> movedBy(Map<Integer, Placement> at, int block, int kind) {
        return kind < 4 ? pushedBy(at, block, kind) : Set.of(block);
    }

    // ---- moves

    int moved(int block, int kind) {
        if (!now.containsKey(block)) {
            return -1;
        }
        if (kind < 0 || kind > 5) {
            return -3;
        }
        if (after(now, block, kind) == null) {
            return -4;
        }
        return movedBy(now, block, kind).stream().mapToInt(b -> 1 << b).sum();
    }

    int move(int block, int kind) {
        int set = moved(block, kind);
        if (set < 0) {
            return set;
        }
        if (made.size() == 200) {
            return -5;
        }
        int effort = movedBy(now, block, kind).stream().mapToInt(weights::get).sum();
        Map<Integer, Placement> next = after(now, block, kind);
        made.addLast(new Made(10 * block + kind, effort, now, next));
        now = next;
        undone.clear();
        return made.size();
    }

    private List<Integer> possibleMoves(Map<Integer, Placement> at) {
        List<Integer> result = new ArrayList<>();
        for (int block = 0; block < 5; block++) {
            for (int kind = 0; kind < 6; kind++) {
                if (at.containsKey(block) && after(at, block, kind) != null) {
                    result.add(10 * block + kind);
                }
            }
        }
        return result;
    }

    int possibleCount() {
        return possibleMoves(now).size();
    }

    private static int place(List<Integer> list, int k) {
        if (k < 0) {
            return -3;
        }
        return k < list.size() ? list.get(k) : -7;
    }

    int possible(int k) {
        return place(possibleMoves(now), k);
    }

    int undo() {
        if (made.isEmpty()) {
            return -7;
        }
        Made last = made.removeLast();
        undone.addLast(last);
        now = last.before();
        return made.size();
    }

    int redo() {
        if (undone.isEmpty()) {
            return -7;
        }
        Made last = undone.removeLast();
        made.addLast(last);
        now = last.after();
        return made.size();
    }

    int moveAt(int k) {
        return place(made.stream().map(Made::move).toList(), k);
    }

    int effort() {
        return made.stream().mapToInt(Made::effort).sum();
    }

    int save(int slot) {
        if (slot < 0 || slot > 3) {
            return -3;
        }
        return slots.put(slot, now) == null ? 1 : 0;
    }

    int restore(int slot) {
        if (slot < 0 || slot > 3) {
            return -3;
        }
        Map<Integer, Placement> kept = slots.get(slot);
        if (kept == null) {
            return -7;
        }
        int changed = 0;
        for (int block : now.keySet()) {
            changed += now.get(block).equals(kept.get(block)) ? 0 : 1;
        }
        now = kept;
        made.clear();
        undone.clear();
        return changed;
    }

    // ---- solving

    private boolean isThere(int block, Placement placement) {
        Goal goal = goals.get(block);
        if (goal == null) {
            return true;
        }
        boolean oriented = goal.orientation() == 4 || goal.orientation() == placement.orientation();
        return oriented && goal.pivot().equals(placement.pivot());
    }

    private boolean isSolvedIn(Map<Integer, Placement> at) {
        return at.keySet().stream().allMatch(block -> isThere(block, at.get(block)));
    }

    int isSolved() {
        return isSolvedIn(now) ? 1 : 0;
    }

    private List<Placement> placements(int block) {
        List<Placement> result = new ArrayList<>();
        for (Point point : ground.keySet()) {
            for (int orientation = 0; orientation < 4; orientation++) {
                Placement placement = new Placement(point, orientation);
                if (cellsOf(block, placement).stream().allMatch(p -> ground.getOrDefault(p, 1) != 1)) {
                    result.add(placement);
                }
            }
        }
        return result;
    }

    /** The distances alone of all placements that are not dead: lowered until nothing changes any more. */
    private Map<Placement, Integer> distances(int block) {
        Map<Placement, Integer> result = new HashMap<>();
        Map<Placement, List<Placement>> next = new HashMap<>();
        for (Placement placement : placements(block)) {
            if (isThere(block, placement)) {
                result.put(placement, 0);
            }
            List<Placement> reached = new ArrayList<>();
            for (int kind = 0; kind < 6; kind++) {
                Map<Integer, Placement> behind = after(Map.of(block, placement), block, kind, true);
                if (behind != null) {
                    reached.add(behind.get(block));
                }
            }
            next.put(placement, reached);
        }
        boolean lowers = true;
        while (lowers) {
            lowers = false;
            for (Placement placement : next.keySet()) {
                for (Placement reached : next.get(placement)) {
                    int through = result.getOrDefault(reached, 9999) + 1;
                    if (through < result.getOrDefault(placement, 9999)) {
                        result.put(placement, through);
                        lowers = true;
                    }
                }
            }
        }
        return result;
    }

    int isDead(int block, int x, int y, int orientation) {
        if (!now.containsKey(block)) {
            return -1;
        }
        if (!ground.containsKey(new Point(x, y))) {
            return -2;
        }
        if (orientation < 0 || orientation > 3) {
            return -3;
        }
        Placement placement = new Placement(new Point(x, y), orientation);
        if (!placements(block).contains(placement)) {
            return -7;
        }
        return distances(block).containsKey(placement) ? 0 : 1;
    }

    int deadCount(int block) {
        return now.containsKey(block) ? placements(block).size() - distances(block).size() : -1;
    }

    int distance(int block) {
        return now.containsKey(block) ? distances(block).getOrDefault(now.get(block), -7) : -1;
    }

    int lowerBound() {
        int greatest = 0;
        for (int block : now.keySet()) {
            int distance = distance(block);
            if (distance < 0) {
                return -7;
            }
            greatest = Math.max(greatest, distance);
        }
        return greatest;
    }

    private static boolean someDead(Map<Integer, Map<Placement, Integer>> alive, Map<Integer, Placement> at) {
        return at.keySet().stream().anyMatch(block -> !alive.get(block).containsKey(at.get(block)));
    }

    private Outcome solved() {
        Map<Integer, Map<Placement, Integer>> alive = new HashMap<>();
        for (int block : now.keySet()) {
            alive.put(block, distances(block));
        }
        if (someDead(alive, now)) {
            return new Outcome(-7, List.of());
        }
        List<Map<Integer, Placement>> list = new ArrayList<>(List.of(now));
        Map<Map<Integer, Placement>, Step> steps = new HashMap<>();
        steps.put(now, null);
        if (isSolvedIn(now)) {
            return new Outcome(0, List.of());
        }
        for (int at = 0; at < list.size(); at++) {
            for (int move : possibleMoves(list.get(at))) {
                Map<Integer, Placement> next = after(list.get(at), move / 10, move % 10);
                if (someDead(alive, next) || steps.containsKey(next)) {
                    continue;
                }
                if (list.size() == 1200) {
                    return new Outcome(-6, List.of());
                }
                list.add(next);
                steps.put(next, new Step(list.get(at), move));
                if (isSolvedIn(next)) {
                    List<Integer> moves = new ArrayList<>();
                    for (Step step = steps.get(next); step != null; step = steps.get(step.from())) {
                        moves.add(0, step.move());
                    }
                    return new Outcome(moves.size(), moves);
                }
            }
        }
        return new Outcome(-7, List.of());
    }

    int solve() {
        return solved().answer();
    }

    int solution(int k) {
        if (k < 0) {
            return -3;
        }
        Outcome outcome = solved();
        return outcome.answer() == -6 ? -6 : place(outcome.moves(), k);
    }

    int reachable(int moves) {
        if (moves < 0 || moves > 4) {
            return -3;
        }
        Map<Map<Integer, Placement>, Integer> depths = new LinkedHashMap<>();
        depths.put(now, 0);
        List<Map<Integer, Placement>> edge = List.of(now);
        for (int depth = 1; depth <= moves; depth++) {
            List<Map<Integer, Placement>> found = new ArrayList<>();
            for (Map<Integer, Placement> at : edge) {
                for (int move : possibleMoves(at)) {
                    Map<Integer, Placement> next = after(at, move / 10, move % 10);
                    if (depths.putIfAbsent(next, depth) == null) {
                        found.add(next);
                    }
                }
                if (depths.size() > 1200) {
                    return -6;
                }
            }
            edge = found;
        }
        return depths.size();
    }
}
