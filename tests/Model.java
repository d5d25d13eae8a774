import java.util.ArrayList;
import java.util.HashMap;
import java.util.HashSet;
import java.util.List;
import java.util.Map;
import java.util.Set;

/**
 * The race once more, straight from the document's words and without regard to room or time: walls are asked by
 * geometry, distances come from repeated relaxing, ways from counting by memory. Only tests use it.
 */
final class Model {
    static final int NONE = -1;
    static final int[] DX = {0, 1, 0, -1};
    static final int[] DY = {1, 0, -1, 0};
    static final long MODULUS = 1000003;

    record Wall(int x, int y, boolean upright) {
    }

    static final class Rule {
        int pawn;
        String kind;
        int side;
        int n;
        int r;
        int x1;
        int y1;
        int x2;
        int y2;
    }

    static final class Racer {
        int x;
        int y;
        int side;
        int walls;
        int made;
        int latest = NONE;
        int rank;

        Racer copy() {
            Racer copy = new Racer();
            copy.x = x;
            copy.y = y;
            copy.side = side;
            copy.walls = walls;
            copy.made = made;
            copy.latest = latest;
            copy.rank = rank;
            return copy;
        }
    }

    int width = 5;
    int height = 5;
    List<Wall> walls = new ArrayList<>();
    List<Racer> racers = new ArrayList<>();
    List<Rule> rules = new ArrayList<>();
    int turns;
    int turn;

    Model copy() {
        Model copy = new Model();
        copy.width = width;
        copy.height = height;
        copy.walls = new ArrayList<>(walls);
        for (Racer racer : racers) {
            copy.racers.add(racer.copy());
        }
        copy.rules = new ArrayList<>(rules);
        copy.turns = turns;
        copy.turn = turn;
        return copy;
    }

    boolean isCell(int x, int y) {
        return 0 <= x && x < width && 0 <= y && y < height;
    }

    boolean isPlace(int x, int y) {
        return 0 <= x && x <= width - 2 && 0 <= y && y <= height - 2;
    }

    boolean has(int x, int y, boolean upright) {
        return walls.contains(new Wall(x, y, upright));
    }

    int wallAt(int x, int y) {
        return has(x, y, false) ? 0 : has(x, y, true) ? 1 : NONE;
    }

    boolean blocked(int x, int y, int d) {
        if (!isCell(x + DX[d], y + DY[d])) {
            return true;
        }
        int lowX = Math.min(x, x + DX[d]);
        int lowY = Math.min(y, y + DY[d]);
        if (DX[d] == 0) {
            return has(lowX, lowY, false) || has(lowX - 1, lowY, false);
        }
        return has(lowX, lowY, true) || has(lowX, lowY - 1, true);
    }

    boolean atSide(int x, int y, int side) {
        return side == 0 && y == height - 1 || side == 1 && x == width - 1 || side == 2 && y == 0 || side == 3 && x == 0;
    }

    /** Distances [x][y] to a side, not by the cell (noX, noY). */
    int[][] distances(int side, int noX, int noY) {
        int[][] distance = new int[width][height];
        boolean changed = true;
        for (int x = 0; x < width; x++) {
            for (int y = 0; y < height; y++) {
                distance[x][y] = atSide(x, y, side) && !(x == noX && y == noY) ? 0 : 1000;
            }
        }
        while (changed) {
            changed = false;
            for (int x = 0; x < width; x++) {
                for (int y = 0; y < height; y++) {
                    for (int d = 0; d < 4 && !(x == noX && y == noY); d++) {
                        if (!blocked(x, y, d) && distance[x + DX[d]][y + DY[d]] + 1 < distance[x][y]) {
                            distance[x][y] = distance[x + DX[d]][y + DY[d]] + 1;
                            changed = true;
                        }
                    }
                }
            }
        }
        return distance;
    }

    int distanceFrom(int side, int x, int y) {
        int distance = distances(side, NONE, NONE)[x][y];
        return distance >= 1000 ? NONE : distance;
    }

    int distance(int p) {
        return distanceFrom(racers.get(p).side, racers.get(p).x, racers.get(p).y);
    }

    boolean admissible(int x, int y, boolean upright) {
        if (wallAt(x, y) != NONE) {
            return false;
        }
        if (upright ? has(x, y - 1, true) || has(x, y + 1, true) : has(x - 1, y, false) || has(x + 1, y, false)) {
            return false;
        }
        Model then = with(x, y, upright);
        for (int p = 0; p < racers.size(); p++) {
            if (racers.get(p).rank == 0 && then.distance(p) == NONE) {
                return false;
            }
        }
        return true;
    }

    Model with(int x, int y, boolean upright) {
        Model then = copy();
        then.walls.add(new Wall(x, y, upright));
        return then;
    }

    int countAdmissible() {
        int number = 0;
        for (int x = 0; x < width - 1; x++) {
            for (int y = 0; y < height - 1; y++) {
                number += (admissible(x, y, false) ? 1 : 0) + (admissible(x, y, true) ? 1 : 0);
            }
        }
        return number;
    }

    int regions() {
        int[][] label = new int[width][height];
        for (int i = 0; i < width * height; i++) {
            label[i % width][i / width] = i;
        }
        boolean changed = true;
        while (changed) {
            changed = false;
            for (int x = 0; x < width; x++) {
                for (int y = 0; y < height; y++) {
                    for (int d = 0; d < 4; d++) {
                        if (!blocked(x, y, d) && label[x + DX[d]][y + DY[d]] < label[x][y]) {
                            label[x][y] = label[x + DX[d]][y + DY[d]];
                            changed = true;
                        }
                    }
                }
            }
        }
        Set<Integer> labels = new HashSet<>();
        for (int[] column : label) {
            for (int l : column) {
                labels.add(l);
            }
        }
        return labels.size();
    }

    boolean over() {
        return racers.stream().filter(r -> r.rank == 0).count() < 2 || turns >= 200;
    }

    int turnOf() {
        return over() ? NONE : turn;
    }

    int finished() {
        return (int) racers.stream().filter(r -> r.rank != 0).count();
    }

    int pawnAt(int x, int y) {
        for (int p = 0; p < racers.size(); p++) {
            Racer r = racers.get(p);
            if (r.rank == 0 && r.x == x && r.y == y) {
                return p;
            }
        }
        return NONE;
    }

    boolean banned(int p, int d, int x, int y, int latest, int made) {
        for (Rule rule : rules) {
            if (rule.pawn != p) {
                continue;
            }
            boolean bans = switch (rule.kind) {
                case "back" -> latest != NONE && d == (latest + 2) % 4;
                case "again" -> latest == d;
                case "every" -> rule.side == d && made % rule.n == rule.r;
                default -> rule.side == d && between(x, rule.x1, rule.x2) && between(y, rule.y1, rule.y2);
            };
            if (bans) {
                return true;
            }
        }
        return false;
    }

    private static boolean between(int v, int a, int b) {
        return a <= v && v <= b || b <= v && v <= a;
    }

    boolean banned(int p, int d) {
        Racer r = racers.get(p);
        return banned(p, d, r.x, r.y, r.latest, r.made);
    }

    /** Where a pawn comes by a step: {x, y}; null if it cannot. */
    int[] target(int p, int d) {
        Racer r = racers.get(p);
        if (over() || r.rank != 0 || banned(p, d) || blocked(r.x, r.y, d)) {
            return null;
        }
        int x = r.x + DX[d];
        int y = r.y + DY[d];
        if (pawnAt(x, y) == NONE) {
            return new int[] {x, y};
        }
        if (blocked(x, y, d) || pawnAt(x + DX[d], y + DY[d]) != NONE) {
            return null;
        }
        return new int[] {x + DX[d], y + DY[d]};
    }

    int steps(int p) {
        int mask = 0;
        for (int d = 0; d < 4; d++) {
            mask += target(p, d) != null ? 1 << d : 0;
        }
        return mask;
    }

    long ways(int p) {
        Racer r = racers.get(p);
        return r.rank != 0 ? 1 : ways(distances(r.side, NONE, NONE), r.x, r.y, new HashMap<>());
    }

    private long ways(int[][] distance, int x, int y, Map<Integer, Long> known) {
        if (distance[x][y] == 0) {
            return 1;
        }
        Long before = known.get(x * 10 + y);
        if (before != null) {
            return before;
        }
        long sum = 0;
        for (int d = 0; d < 4; d++) {
            if (!blocked(x, y, d) && distance[x + DX[d]][y + DY[d]] == distance[x][y] - 1) {
                sum += ways(distance, x + DX[d], y + DY[d], known);
            }
        }
        known.put(x * 10 + y, sum % MODULUS);
        return sum % MODULUS;
    }

    int onWays(int p) {
        Racer r = racers.get(p);
        Set<Integer> cells = new HashSet<>();
        collect(distances(r.side, NONE, NONE), r.x, r.y, cells);
        return r.rank != 0 ? 1 : cells.size();
    }

    private void collect(int[][] distance, int x, int y, Set<Integer> cells) {
        if (!cells.add(x * 10 + y)) {
            return;
        }
        for (int d = 0; d < 4; d++) {
            if (!blocked(x, y, d) && distance[x + DX[d]][y + DY[d]] == distance[x][y] - 1) {
                collect(distance, x + DX[d], y + DY[d], cells);
            }
        }
    }

    boolean gate(int p, int x, int y) {
        Racer r = racers.get(p);
        return !(r.x == x && r.y == y) && distances(r.side, x, y)[r.x][r.y] >= 1000;
    }

    int gates(int p) {
        int number = 0;
        for (int x = 0; x < width; x++) {
            for (int y = 0; y < height; y++) {
                number += gate(p, x, y) ? 1 : 0;
            }
        }
        return number;
    }

    /** The numbers of ways with bans, not reduced where they stay small, by the number of their steps. */
    java.math.BigInteger[] waysWithBans(int p, int most) {
        java.math.BigInteger[] arrived = new java.math.BigInteger[most + 1];
        java.util.Arrays.fill(arrived, java.math.BigInteger.ZERO);
        Racer r = racers.get(p);
        Map<List<Integer>, java.math.BigInteger> now = new HashMap<>();
        if (r.rank != 0) {
            arrived[0] = java.math.BigInteger.ONE;
            return arrived;
        }
        now.put(List.of(r.x, r.y, r.latest), java.math.BigInteger.ONE);
        for (int n = 1; n <= most; n++) {
            Map<List<Integer>, java.math.BigInteger> then = new HashMap<>();
            for (var entry : now.entrySet()) {
                int x = entry.getKey().get(0);
                int y = entry.getKey().get(1);
                for (int d = 0; d < 4; d++) {
                    if (blocked(x, y, d) || banned(p, d, x, y, entry.getKey().get(2), r.made + n - 1)) {
                        continue;
                    }
                    if (atSide(x + DX[d], y + DY[d], r.side)) {
                        arrived[n] = arrived[n].add(entry.getValue());
                    } else {
                        then.merge(List.of(x + DX[d], y + DY[d], d), entry.getValue(), java.math.BigInteger::add);
                    }
                }
            }
            now = then;
        }
        return arrived;
    }

    int leader() {
        int best = NONE;
        for (int p = 0; p < racers.size(); p++) {
            if (racers.get(p).rank == 0 && (best == NONE || distance(p) < distance(best))) {
                best = p;
            }
        }
        return best;
    }

    int advised(int p) {
        int best = NONE;
        int least = 0;
        for (int d = 0; d < 4; d++) {
            int[] target = target(p, d);
            if (target != null) {
                int distance = distanceFrom(racers.get(p).side, target[0], target[1]);
                if (best == NONE || distance < least) {
                    best = d;
                    least = distance;
                }
            }
        }
        return best;
    }

    /** The best wall against a pawn and its gain: {x, y, way, gain}; null if there is none. */
    int[] best(int p) {
        int[] best = null;
        for (int y = 0; y < height - 1 && racers.get(p).rank == 0; y++) {
            for (int x = 0; x < width - 1; x++) {
                for (int way = 0; way < 2; way++) {
                    if (admissible(x, y, way == 1)) {
                        int gain = with(x, y, way == 1).distance(p) - distance(p);
                        if (best == null || gain > best[3]) {
                            best = new int[] {x, y, way, gain};
                        }
                    }
                }
            }
        }
        return best;
    }

    void endTurn() {
        turns++;
        for (int i = 0; i < racers.size(); i++) {
            turn = (turn + 1) % racers.size();
            if (racers.get(turn).rank == 0) {
                return;
            }
        }
    }

    boolean step(int d) {
        if (over() || target(turn, d) == null) {
            return false;
        }
        Racer r = racers.get(turn);
        int[] target = target(turn, d);
        r.x = target[0];
        r.y = target[1];
        r.latest = d;
        r.made++;
        if (atSide(r.x, r.y, r.side)) {
            r.rank = finished() + 1;
        }
        endTurn();
        return true;
    }

    boolean build(int x, int y, boolean upright) {
        if (over() || racers.get(turn).walls == 0 || !isPlace(x, y) || !admissible(x, y, upright)) {
            return false;
        }
        walls.add(new Wall(x, y, upright));
        racers.get(turn).walls--;
        endTurn();
        return true;
    }

    boolean pass() {
        if (over() || steps(turn) != 0) {
            return false;
        }
        endTurn();
        return true;
    }

    int play(int mode, int turnsToPlay) {
        int played = 0;
        while (played < turnsToPlay && !over()) {
            played++;
            int rival = NONE;
            for (int p = 0; p < racers.size(); p++) {
                if (p != turn && racers.get(p).rank == 0 && (rival == NONE || distance(p) < distance(rival))) {
                    rival = p;
                }
            }
            if (mode == 1 && racers.get(turn).walls > 0 && distance(rival) < distance(turn)) {
                int[] best = best(rival);
                if (best != null && best[3] >= 1) {
                    build(best[0], best[1], best[2] == 1);
                    continue;
                }
            }
            if (!pass()) {
                step(advised(turn));
            }
        }
        return played;
    }

    String report() {
        StringBuilder report = new StringBuilder();
        for (int y = height - 1; y >= 0; y--) {
            for (int x = 0; x < width; x++) {
                report.append(pawnAt(x, y) == NONE ? "." : "" + pawnAt(x, y));
            }
            report.append("\n");
        }
        for (int y = 0; y < height; y++) {
            for (int x = 0; x < width; x++) {
                if (wallAt(x, y) != NONE) {
                    report.append(wallAt(x, y) == 0 ? "-" : "|").append(x).append(y);
                }
            }
        }
        return report.append("\n").toString();
    }
}
