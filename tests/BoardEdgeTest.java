/**
 * Each sentence of the document's sections 2 to 4, and of promises 8 to 21 and 37 to 39, that names an edge: the
 * sentence stands above its test.
 */
public final class BoardEdgeTest {
    private static final int NONE = PawnRace.NONE;
    private static final String[] SIDES = {"north", "east", "south", "west"};
    private static final String[] WAYS = {"level", "upright"};
    private static final int[] DX = {0, 1, 0, -1};
    private static final int[] DY = {1, 0, -1, 0};
    private static final int[] FAR = {Integer.MIN_VALUE, -1, Integer.MAX_VALUE};

    private BoardEdgeTest() {
    }

    public static void main(String[] args) {
        numbersAsked();
        cells();
        places();
        edgesOfTheBoard();
        twoSteps();
        noneBeside();
        waysOfAll();
        numberOfAdmissible();
        finishedNeedsNoWay();
        pawnsAndBansDoNotMatter();
        regions();
        stepsAndJumps();
        jumpsAtEachCell();
        finishedIsOnNoCell();
        banned();
        noneAheadOfTheFirst();
        everyStep();
        betweenTwoCells();
        maskOfSteps();
        sides();
        ranks();
        leftOut();
        passes();
        lastTurn();
        tooFew();
        buildsIfItHasOne();
        Check.end();
    }

    // ---- what is asked

    /** setting(): "what is out of range"; pawn(): the same, and "the number of an existing one". */
    private static void numbersAsked() {
        PawnRace race = Check.read("board 9 8;pawn a 8 0 north;pawn b 3 7 west walls 0;block 0 0 level;ban b back;");
        int[] settings = {9, 8, 2, 1, 0, 0, 1};
        for (int what = 0; what < 7; what++) {
            Check.due("setting " + what, race.setting(what), settings[what]);
        }
        int[][] pawns = {{8, 0, 0, 5, 0, NONE, 0, 0}, {3, 7, 3, 0, 0, NONE, 0, 1}};
        for (int pawn = 0; pawn < 2; pawn++) {
            for (int what = 0; what < 8; what++) {
                Check.due("pawn " + pawn + ", " + what, race.pawn(pawn, what), pawns[pawn][what]);
            }
        }
        for (int far : FAR) {
            Check.illegalArgument("setting " + far, () -> race.setting(far));
            Check.illegalArgument("pawn 0, " + far, () -> race.pawn(0, far));
            Check.outOfBounds("pawn " + far, () -> race.pawn(far, 0));
            Check.outOfBounds("pawn and what " + far, () -> race.pawn(far, far));
        }
        Check.illegalArgument("setting 7", () -> race.setting(7));
        Check.illegalArgument("pawn 1, 8", () -> race.pawn(1, 8));
        Check.outOfBounds("pawn 2", () -> race.pawn(2, 0));
        Check.outOfBounds("pawn 2, 8", () -> race.pawn(2, 8));
    }

    /**
     * "Cells have an x from 0 to the width less 1 .. and a y from 0 to the height less 1"; "if there is no such cell"
     */
    private static void cells() {
        for (String board : new String[] {"board 3 5;", "board 9 4;", "board 3 3;", "board 9 9;", ""}) {
            PawnRace race = Check.read(board + "pawn a 1 1 north;pawn b 2 1 north;");
            int width = race.setting(0);
            int height = race.setting(1);
            int[] xs = {-1, 0, 1, 2, width - 1, width, Integer.MAX_VALUE};
            int[] ys = {-1, 0, 1, height - 1, height, Integer.MIN_VALUE};
            for (int x : xs) {
                for (int y : ys) {
                    boolean cell = x >= 0 && x < width && y >= 0 && y < height;
                    int pawn = y == 1 && x == 1 ? 0 : y == 1 && x == 2 ? 1 : NONE;
                    String bounds = "throws IndexOutOfBoundsException";
                    Check.due("pawnAt", Check.outcome(() -> race.pawnAt(x, y)), cell ? "" + pawn : bounds);
                    Check.due("isBlocked", Check.outcome(() -> race.isBlocked(x, y, 1) ? 1 : 0),
                        !cell ? bounds : x == width - 1 ? "1" : "0");
                    Check.due("isBlocked", Check.outcome(() -> race.isBlocked(x, y, 4) ? 1 : 0),
                        !cell ? bounds : "throws IllegalArgumentException");
                    Check.due("distanceFrom", Check.outcome(() -> race.distanceFrom(1, x, y)),
                        cell ? "" + (height - 1 - y) : bounds);
                    Check.due("isGate", Check.outcome(() -> race.isGate(1, x, y) ? 1 : 0), cell ? "0" : bounds);
                }
            }
        }
    }

    /** "A wall has a place x, y (x from 0 to the width less 2, y from 0 to the height less 2)"; "no such place" */
    private static void places() {
        String bounds = "throws IndexOutOfBoundsException";
        for (String board : new String[] {"board 3 5;", "board 9 4;", "board 9 9;"}) {
            PawnRace race = Check.read(board + "pawn a 1 1 north walls 20;pawn b 2 1 north walls 20;");
            int width = race.setting(0);
            int height = race.setting(1);
            for (int x : new int[] {-1, 0, width - 2, width - 1, width, Integer.MAX_VALUE}) {
                for (int y : new int[] {Integer.MIN_VALUE, -1, 0, height - 2, height - 1, height}) {
                    boolean place = x >= 0 && x < width - 1 && y >= 0 && y < height - 1;
                    Check.due("wallAt", Check.outcome(() -> race.wallAt(x, y)), place ? "-1" : bounds);
                    Check.due("isAdmissible", Check.outcome(() -> race.isAdmissible(x, y, true) ? 1 : 0),
                        place ? "1" : bounds);
                    Check.due("harm", Check.outcome(() -> race.harm(0, x, y, true)), place ? "0" : bounds);
                    Check.due("build", Check.outcome(() -> race.build(x, y, true)), place ? "19" : bounds);
                    Check.due("undo", race.undo(), place ? 0 : NONE);
                }
            }
        }
    }

    /** isBlocked(): "a wall (or the edge of the board) blocks the step"; "if direction is not 0 to 3" */
    private static void edgesOfTheBoard() {
        for (String board : new String[] {"board 3 4;", "board 9 9;", "board 9 3;"}) {
            PawnRace race = Check.read(board);
            int width = race.setting(0);
            int height = race.setting(1);
            for (int x = 0; x < width; x += 1 + width / 5) {
                for (int y = 0; y < height; y++) {
                    boolean[] edge = {y == height - 1, x == width - 1, y == 0, x == 0};
                    for (int direction = 0; direction < 4; direction++) {
                        Check.due("isBlocked", race.isBlocked(x, y, direction), edge[direction]);
                    }
                }
            }
            for (int direction : new int[] {Integer.MIN_VALUE, -1, 4, Integer.MAX_VALUE}) {
                Check.illegalArgument("isBlocked", () -> race.isBlocked(0, 0, direction) ? 1 : 0);
            }
        }
    }

    /** "It blocks the two steps between them, in both directions": level and upright ones, at each place. */
    private static void twoSteps() {
        for (int i = 0; i < 2 * 3 * 4; i++) {
            int x = i % 3;
            int y = i / 3 % 4;
            boolean upright = i >= 3 * 4;
            PawnRace race = Check.read("board 4 5;block " + x + " " + y + WAYS[upright ? 1 : 0] + ";");
            Check.due("wallAt", race.wallAt(x, y), upright ? 1 : 0);
            int blocked = 0;
            for (int cell = 0; cell < 4 * 5; cell++) {
                for (int direction = 0; direction < 4; direction++) {
                    int nextX = cell % 4 + DX[direction];
                    int nextY = cell / 4 + DY[direction];
                    if (nextX >= 0 && nextX < 4 && nextY >= 0 && nextY < 5) {
                        blocked += race.isBlocked(cell % 4, cell / 4, direction) ? 1 : 0;
                    }
                }
            }
            Check.due("steps that are blocked", blocked, 4);
            for (int k = 0; k < 2; k++) {
                int fromX = upright ? x : x + k;
                int fromY = upright ? y + k : y;
                Check.due("there", race.isBlocked(fromX, fromY, upright ? 1 : 0), true);
                Check.due("back", race.isBlocked(fromX + (upright ? 1 : 0), fromY + (upright ? 0 : 1), upright ? 3 : 2),
                    true);
            }
        }
    }

    // ---- admissible walls

    /**
     * "no wall at its place, no wall of its way at the place beside it (level: x - 1 or x + 1; upright: y - 1 or y +
     * 1)"
     */
    private static void noneBeside() {
        for (int i = 0; i < 2 * 16; i++) {
            int x = i % 4;
            int y = i / 4 % 4;
            int way = i / 16;
            PawnRace race = Check.read("block " + x + " " + y + WAYS[way] + ";");
            int number = 0;
            for (int k = 0; k < 2 * 16; k++) {
                int dx = Math.abs(k % 4 - x);
                int dy = Math.abs(k / 4 % 4 - y);
                boolean same = dx + dy == 0;
                boolean beside = k / 16 == way && (way == 0 ? dx == 1 && dy == 0 : dx == 0 && dy == 1);
                Check.due("isAdmissible", race.isAdmissible(k % 4, k / 4 % 4, k / 16 == 1), !same && !beside);
                number += same || beside ? 0 : 1;
            }
            Check.due("admissible", race.admissible(), number);
        }
        Check.due("none is built", Check.read("board 9 3;").admissible(), 32);
    }

    /** "if each pawn that has not finished still has a way": each of four pawns, whoever's turn it is. */
    private static void waysOfAll() {
        String corner = "block 0 1 level;";
        String others = "pawn b 4 4 south;pawn c 4 3 south;pawn d 3 4 south;";
        String[] texts = {"pawn a 0 0 north;" + others, "pawn b 4 4 south;pawn a 1 1 east;pawn c 4 3 south;",
            "pawn b 4 4 south;pawn c 4 3 south;pawn a 1 0 north;", others + "pawn a 0 1 east;"};
        for (String text : texts) {
            PawnRace race = Check.read(text + corner);
            Check.due("it would shut a up", race.isAdmissible(1, 0, true), false);
            Check.illegalState("build", () -> race.build(1, 0, true));
            Check.illegalState("harm of any pawn", () -> race.harm(0, 1, 0, true));
            Check.due("one farther would not", race.isAdmissible(2, 0, true), true);
            Check.due("nothing was built", race.setting(3), 1);
        }
        PawnRace inside = Check.read("pawn a 0 0 east;pawn b 0 1 south;" + corner);
        Check.due("a has no way, b has", inside.isAdmissible(1, 0, true), false);
        inside = Check.read("pawn a 1 1 west;pawn b 0 1 south;" + corner);
        Check.due("both have", inside.isAdmissible(1, 0, true), true);
    }

    /** admissible(): the number of them, as the pawns are now; a goes into a corner, and out of it. */
    private static void numberOfAdmissible() {
        PawnRace race = Check.read("pawn a 2 0 north;pawn b 4 4 south;block 0 1 level;");
        // two at the place, one beside it; then the upright ones at 1, 0 and at 0, 0 would shut a up
        int[] due = {29, 28, 27, 28, 29};
        int[] steps = {3, 3, 1, 1};
        for (int i = 0; i < due.length; i++) {
            Check.due("admissible", race.admissible(), due[i]);
            if (i < steps.length) {
                race.step(steps[i]);
                race.step(i % 2 == 0 ? 3 : 1);
            }
        }
        Check.due("back at the first cell", race.pawn(0, 0), 2);
        race.step(3);
        race.play(1, 1);
        race.undo();
        Check.due("admissible behind undo", race.admissible(), 28);
    }

    /** "each pawn that has not finished": one that has finished may be shut up. */
    private static void finishedNeedsNoWay() {
        // a goes by the cell 0, 1 to the cell 0, 0, its side is the south; north of it is nothing for it then
        PawnRace race = Check.read("pawn a 1 1 west;pawn b 4 0 north;pawn c 4 4 south;block 0 1 level;");
        race.step(3);
        Check.due("a has finished", race.pawn(0, 6), 1);
        Check.due("its cell may be shut up", race.isAdmissible(1, 0, true), true);
        Check.due("build", race.build(1, 0, true), 4);
        Check.due("regions", race.regions(), 2);
        Check.due("distance of a", race.distance(0), 0);
        PawnRace alone = Check.read("pawn a 0 3 north;pawn b 4 0 north;pawn c 4 4 south;block 1 3 upright;");
        Check.due("a needs its last step", alone.isAdmissible(0, 3, false), true);
        alone.step(0);
        // the cells 0, 4 and 1, 4 are shut up by it
        Check.due("a is at its side and finished", alone.isAdmissible(0, 3, false), true);
    }

    /** "(Pawns and bans do not matter for ways.)" */
    private static void pawnsAndBansDoNotMatter() {
        // the column 0 is a way of its own up to the cell 0, 1, where b stands; a may not step at all by its rules
        PawnRace race = TextTest.good("board 3 3;pawn a 0 0 north;pawn b 0 1 east;ban a north from 0 0 to 2 2;"
            + "ban a east from 0 0 to 2 2;ban a west from 0 0 to 2 2;block 0 0 upright;", 2);
        Check.due("steps", race.steps(0), 0);
        Check.due("distance", race.distance(0), 2);
        Check.due("distanceFrom", race.distanceFrom(0, 1, 0), 2);
        Check.due("ways", race.ways(0), 1);
        Check.due("onWays", race.onWays(0), 3);
        Check.due("gates", race.gates(0), 2);
        Check.due("isGate", race.isGate(0, 0, 1), true);
        Check.due("stepsWithBans", race.stepsWithBans(0), NONE);
        Check.due("a wall that leaves that way", race.isAdmissible(1, 1, false), true);
        Check.due("a wall that does not", race.isAdmissible(0, 1, false), false);
    }

    /**
     * regions(): "of cells that hang together by steps that no wall blocks" - from one to many; pawns do not matter.
     */
    private static void regions() {
        Check.due("the whole board", Check.read("board 9 9;").regions(), 1);
        Check.due("pawns", Check.read("board 3 3;pawn a 0 1 north;pawn b 1 1 north;pawn c 2 1 north;").regions(), 1);
        String wheel = "block 0 0 level;block 1 0 upright;block 0 1 upright;";
        Check.due("three walls", Check.read("board 3 3;" + wheel).regions(), 3);
        Check.due("four walls round a cell", Check.read("board 3 3;" + wheel + "block 1 1 level;").regions(), 5);
        Check.due("two halves", Check.read("board 4 3;block 0 0 level;block 2 0 level;").regions(), 2);
        Check.due("two halves", Check.read("board 3 4;block 0 0 upright;block 0 2 upright;").regions(), 2);
        Check.due("rows", Check.read("board 4 4;block 0 0 level;block 2 0 level;block 0 1 level;block 2 1 level;"
            + "block 0 2 level;block 2 2 level;").regions(), 4);
    }

    // ---- steps and jumps

    /** "to the next cell, if .. no wall blocks the step and no pawn is there"; "If a pawn is there, it jumps: .." */
    private static void stepsAndJumps() {
        String[] firstWalls = {"block 2 2 level;", "block 2 2 upright;", "block 2 1 level;", "block 1 2 upright;"};
        String[] secondWalls = {"block 2 3 level;", "block 3 2 upright;", "block 2 0 level;", "block 0 2 upright;"};
        for (int d = 0; d < 4; d++) {
            int opposite = (d + 2) % 4;
            String a = "pawn a 2 2 " + SIDES[d] + ";";
            String b = "pawn b " + (2 + DX[d]) + " " + (2 + DY[d]) + " " + SIDES[opposite] + ";";
            String c = "pawn c " + (2 + 2 * DX[d]) + " " + (2 + 2 * DY[d]) + " " + SIDES[opposite] + ";";
            String far = "pawn o " + (2 + DX[opposite] + DX[(d + 1) % 4]) + " " + (2 + DY[opposite] + DY[(d + 1) % 4])
                + " north;";
            goes("a step", a + far, d, 1);
            goes("a jump", a + b, d, 2);
            goes("a wall ahead of a step", a + far + firstWalls[d], d, 0);
            goes("a wall behind a step", a + far + secondWalls[d], d, 1);
            goes("a wall ahead of the pawn", a + b + firstWalls[d], d, 0);
            goes("a wall behind the pawn", a + b + secondWalls[d], d, 0);
            goes("a pawn behind the pawn", a + b + c, d, 0);
            goes("a pawn behind the next cell", a + c, d, 1);
            // b is at the edge of the board, or the next cell is behind the edge
            String edge = "pawn a " + (2 + DX[d]) + " " + (2 + DY[d]) + " " + SIDES[opposite] + ";";
            String last = "pawn b " + (2 + 2 * DX[d]) + " " + (2 + 2 * DY[d]) + " " + SIDES[opposite] + ";";
            goes("no cell behind the pawn", edge + last, d, 0);
            goes("the last cell", edge + "pawn b 2 2 north;", d, 1);
            goes("no next cell", last + "pawn c 2 2 north;", d, 0);
        }
    }

    /** "to the cell behind that one in the same direction, if there is one": over a pawn at each cell of a board. */
    private static void jumpsAtEachCell() {
        for (int[] size : new int[][] {{3, 3}, {4, 6}, {9, 9}}) {
            for (int at = 0; at < size[0] * size[1] * 4; at++) {
                int d = at % 4;
                int x = at / 4 % size[0];
                int y = at / 4 / size[0];
                int nextX = x + DX[d];
                int nextY = y + DY[d];
                if (nextX < 0 || nextX >= size[0] || nextY < 0 || nextY >= size[1]) {
                    continue;
                }
                int farX = nextX + DX[d];
                int farY = nextY + DY[d];
                boolean isFar = farX >= 0 && farX < size[0] && farY >= 0 && farY < size[1];
                goes("over " + nextX + ", " + nextY, "board " + size[0] + " " + size[1] + ";"
                    + pawnAt("a", x, y, size) + pawnAt("b", nextX, nextY, size), d, isFar ? 2 : 0);
            }
        }
    }

    /** The statement of a pawn that races to some side at which its cell does not lie. */
    private static String pawnAt(String name, int x, int y, int[] size) {
        String side = y < size[1] - 1 ? "north" : x < size[0] - 1 ? "east" : "south";
        return "pawn " + name + " " + x + " " + y + " " + side + ";";
    }

    /** The first pawn goes so many cells by a step in a direction; 0 if it cannot make it. */
    private static void goes(String what, String text, int direction, int cells) {
        PawnRace race = Check.read(text);
        int x = race.pawn(0, 0) + cells * DX[direction];
        int y = race.pawn(0, 1) + cells * DY[direction];
        Check.due(what + " " + direction + ", canStep", race.canStep(0, direction), cells > 0);
        Check.due(what + " " + direction + ", steps", race.steps(0) >> direction & 1, cells > 0 ? 1 : 0);
        Check.due(what + " " + direction + ", step", Check.outcome(() -> race.step(direction)).startsWith("throws"),
            cells == 0);
        Check.due(what + " " + direction + ", x", race.pawn(0, 0), x);
        Check.due(what + " " + direction + ", y", race.pawn(0, 1), y);
        Check.due(what + " is one step", race.pawn(0, 4), cells > 0 ? 1 : 0);
        Check.due(what + " is in its direction", race.pawn(0, 5), cells > 0 ? direction : NONE);
        Check.due(what + " is a turn", race.setting(4), cells > 0 ? 1 : 0);
    }

    /** "(Pawns that have finished are on no cell.)" */
    private static void finishedIsOnNoCell() {
        // c comes to the cell 2, 3; then b stands below it, and a below b
        PawnRace race = Check.read("board 5 4;pawn c 2 2 north;pawn b 1 2 south;pawn a 2 1 north;pawn d 4 3 south;");
        Check.due("step", race.step(0), 0);
        Check.due("pawnAt", race.pawnAt(2, 3), NONE);
        Check.due("x of its last cell", race.pawn(0, 0), 2);
        Check.due("y of its last cell", race.pawn(0, 1), 3);
        race.step(1);
        Check.due("b over the cell of c", race.canStep(1, 0), true);
        Check.due("a over b to the cell of c", race.canStep(2, 0), true);
        Check.due("c has finished", race.steps(0), 0);
        for (int direction = 0; direction < 4; direction++) {
            Check.due("c has finished", race.canStep(0, direction), false);
        }
        Check.due("step", race.step(0), 0);
        Check.due("both had that cell", race.pawnAt(2, 3), NONE);
        Check.due("rank of a", race.pawn(2, 6), 2);
    }

    // ---- bans

    /** "A pawn cannot make a step that is banned": neither a step nor a jump; a rule holds for its own pawn alone. */
    private static void banned() {
        for (int d = 0; d < 4; d++) {
            String ban = "ban a " + SIDES[d] + " every 2 at 0;";
            String jumped = "pawn b " + (2 + DX[d]) + " " + (2 + DY[d]) + (d == 2 ? " north;" : " south;");
            int direction = d;
            for (String other : new String[] {"pawn b 0 0 north;", jumped}) {
                PawnRace race = Check.read("pawn a 2 2 north;" + other + ban);
                Check.due("steps", race.steps(0), 15 - (1 << d));
                Check.due("canStep", race.canStep(0, d), false);
                Check.due("isBanned", race.isBanned(0, d), true);
                Check.due("isBanned of the other", race.isBanned(1, d), false);
                Check.illegalState("step", () -> race.step(direction));
                Check.due("turns", race.setting(4), 0);
            }
        }
        PawnRace race = Check.read("pawn a 2 2 north;pawn b 0 0 north;");
        for (int direction : new int[] {Integer.MIN_VALUE, -1, 4, Integer.MAX_VALUE}) {
            Check.illegalArgument("isBanned", () -> race.isBanned(0, direction) ? 1 : 0);
            Check.illegalArgument("canStep", () -> race.canStep(1, direction) ? 1 : 0);
            Check.illegalArgument("step", () -> race.step(direction));
            Check.outOfBounds("isBanned", () -> race.isBanned(2, direction) ? 1 : 0);
            Check.outOfBounds("canStep", () -> race.canStep(-1, direction) ? 1 : 0);
        }
    }

    /**
     * ""back" those in the direction opposite to its latest step, "again" those in the direction .. (both none ahead
     * ..)"
     */
    private static void noneAheadOfTheFirst() {
        for (int d = 0; d < 4; d++) {
            PawnRace race = Check.read("board 9 9;pawn a 4 4 north;pawn b 1 1 north;ban a back;ban b again;");
            mask("a", race, 0, 0);
            mask("b", race, 1, 0);
            // a wall and a turn are no step
            race.build(7, 7, false);
            race.build(7, 6, false);
            mask("a behind a wall", race, 0, 0);
            mask("b behind a wall", race, 1, 0);
            Check.due("latest", race.pawn(0, 5), NONE);
            race.step(d);
            race.step(d);
            mask("back", race, 0, 1 << (d + 2) % 4);
            mask("again", race, 1, 1 << d);
            race.build(7, 5, false);
            race.build(7, 4, false);
            mask("back, behind a wall", race, 0, 1 << (d + 2) % 4);
            mask("again, behind a wall", race, 1, 1 << d);
            Check.due("latest", race.pawn(0, 5), d);
            race.step((d + 1) % 4);
            race.step((d + 1) % 4);
            mask("the latest step alone", race, 0, 1 << (d + 3) % 4);
            mask("the latest step alone", race, 1, 1 << (d + 1) % 4);
        }
    }

    private static void mask(String what, PawnRace race, int pawn, int due) {
        int mask = 0;
        for (int direction = 0; direction < 4; direction++) {
            mask |= race.isBanned(pawn, direction) ? 1 << direction : 0;
        }
        Check.due("isBanned, " + what, mask, due);
    }

    /** "if the number of steps that it made so far has the remainder r by n": steps and jumps, not turns. */
    private static void everyStep() {
        for (int n = 2; n <= 5; n++) {
            for (int r = 0; r < n; r++) {
                PawnRace race = Check.read("board 5 9;pawn a 0 0 north walls 1;pawn b 4 0 north walls 6;"
                    + "pawn c 0 1 east;ban a west every " + n + " at " + r + ";");
                for (int made = 0; made < 6; made++) {
                    Check.due("steps made", race.pawn(0, 4), made);
                    mask("behind " + made, race, 0, made % n == r ? 8 : 0);
                    // the first step is a jump over c; b builds, and c goes to and fro
                    race.step(0);
                    race.build(1, made, (made & 1) == 0);
                    race.step(made % 2 == 0 ? 2 : 0);
                }
                race.build(0, 7, true);
                mask("a wall is no step", race, 0, 6 % n == r ? 8 : 0);
            }
        }
    }

    /** "from a cell whose x and y lie between those of both cells (or are equal to one of them)": in any order. */
    private static void betweenTwoCells() {
        int[][] corners = {{1, 2, 3, 3}, {3, 3, 1, 2}, {1, 3, 3, 2}, {3, 2, 1, 3}, {2, 2, 2, 2}, {0, 0, 4, 4},
            {4, 0, 4, 0}};
        for (int[] c : corners) {
            for (int cell = 0; cell < 25; cell++) {
                int x = cell % 5;
                int y = cell / 5;
                PawnRace race = Check.read("pawn a " + x + " " + y + (y < 4 ? " north;" : " south;")
                    + "ban a west from " + c[0] + " " + c[1] + " to " + c[2] + " " + c[3] + ";");
                boolean within = x >= Math.min(c[0], c[2]) && x <= Math.max(c[0], c[2]) && y >= Math.min(c[1], c[3])
                    && y <= Math.max(c[1], c[3]);
                mask("at " + x + " " + y, race, 0, within ? 8 : 0);
            }
        }
    }

    /**
     * steps(): "as a bit mask (bit k for direction k)"; canStep(): "whoever's turn it is; false if .. the race is
     * over"
     */
    private static void maskOfSteps() {
        String[] cells = {"0 0", "4 0", "4 3", "0 3", "2 0", "4 2", "2 2", "0 2"};
        int[] due = {3, 9, 13, 7, 11, 13, 15, 7};
        for (int i = 0; i < cells.length; i++) {
            for (int pawn = 0; pawn < 2; pawn++) {
                String asked = "pawn a " + cells[i] + " north;";
                String other = "pawn b 3 1 north;";
                PawnRace race = Check.read(pawn == 0 ? asked + other : other + asked);
                Check.due("steps at " + cells[i], race.steps(pawn), due[i]);
                for (int direction = 0; direction < 4; direction++) {
                    Check.due("canStep", race.canStep(pawn, direction), (due[i] >> direction & 1) != 0);
                }
            }
        }
        PawnRace alone = Check.read("pawn a 2 2 north;");
        Check.due("one pawn alone: the race is over", alone.steps(0), 0);
        Check.due("one pawn alone: the race is over", alone.canStep(0, 0), false);
    }

    // ---- sides, ranks, turns

    /** "A pawn that comes to a cell of its side has finished": to each of the four sides, and to no other one. */
    private static void sides() {
        for (int side = 0; side < 4; side++) {
            for (int d = 0; d < 4; d++) {
                if (d != (side + 2) % 4) {
                    int opposite = (side + 2) % 4;
                    // a stands one ahead of the edge in the direction d, but two from its side if that is another one
                    int x = 3 + 2 * DX[d] + (d == side ? 0 : DX[opposite]);
                    int y = 3 + 2 * DY[d] + (d == side ? 0 : DY[opposite]);
                    PawnRace race = Check.read("board 7 7;pawn a " + x + " " + y + " " + SIDES[side] + ";pawn b 3 3 "
                        + SIDES[side] + ";");
                    Check.due("distance then", race.step(d), d == side ? 0 : 4);
                    Check.due("rank", race.pawn(0, 6), d == side ? 1 : 0);
                    Check.due("finished", race.setting(5), d == side ? 1 : 0);
                    Check.due("pawnAt", race.pawnAt(x + DX[d], y + DY[d]), d == side ? NONE : 0);
                    Check.due("isOver", race.isOver(), d == side);
                    Check.due("turnOf", race.turnOf(), d == side ? NONE : 1);
                }
            }
        }
    }

    /** "its rank is the number of pawns that have finished by then"; ranked(): "NONE if there is none (any int)" */
    private static void ranks() {
        PawnRace race = Check.read("pawn a 0 1 north;pawn b 1 2 north;pawn c 2 3 north;pawn d 3 0 north;");
        int[] order = {2, 1, 0};
        for (int rank = 0; rank <= 3; rank++) {
            for (int asked = -2; asked <= 5; asked++) {
                int due = asked >= 1 && asked <= rank ? order[asked - 1] : NONE;
                Check.due("ranked " + asked + " of " + rank, race.ranked(asked), due);
            }
            Check.due("ranked", race.ranked(Integer.MIN_VALUE), NONE);
            Check.due("ranked", race.ranked(Integer.MAX_VALUE), NONE);
            Check.due("finished", race.setting(5), rank);
            Check.due("isOver", race.isOver(), rank == 3);
            while (!race.isOver() && race.setting(5) == rank) {
                race.step(race.turnOf() == 3 ? race.pawn(3, 0) == 3 ? 1 : 3 : 0);
            }
        }
        int[] due = {3, 2, 1, 0};
        for (int pawn = 0; pawn < 4; pawn++) {
            Check.due("rank of " + pawn, race.pawn(pawn, 6), due[pawn]);
        }
    }

    /** "in order, beginning with pawn 0; those that have finished are left out": one, and two side by side. */
    private static void leftOut() {
        PawnRace race = Check.read("board 9 9;pawn a 0 0 north;pawn b 1 7 north;pawn c 2 7 north;pawn d 3 0 north;");
        for (int pawn = 0; pawn < 4; pawn++) {
            Check.due("the first turn of " + pawn, race.turnOf(), pawn);
            race.step(0);
        }
        for (int turn = 0; turn < 6; turn++) {
            Check.due("b and c are left out", race.turnOf(), turn % 2 == 0 ? 0 : 3);
            race.step(0);
        }
        PawnRace ends = Check.read("board 9 9;pawn a 0 7 north;pawn b 1 0 north;pawn c 2 0 north;pawn d 3 7 north;");
        for (int pawn = 0; pawn < 4; pawn++) {
            Check.due("the first turn of " + pawn, ends.turnOf(), pawn);
            ends.step(0);
        }
        for (int turn = 0; turn < 6; turn++) {
            Check.due("d and a are left out", ends.turnOf(), turn % 2 == 0 ? 1 : 2);
            ends.step(0);
        }
    }

    /** "it may only pass if it can make no step"; pass(): "the pawn whose turn it is then; NONE if the race is over" */
    private static void passes() {
        String shut = "ban a north from 0 0 to 4 4;ban a east from 0 0 to 4 4;";
        PawnRace none = Check.read("pawn a 0 0 north;pawn b 4 4 south;" + shut);
        Check.due("steps", none.steps(0), 0);
        Check.due("a has walls and passes", none.pass(), 1);
        Check.due("a made no step", none.pawn(0, 4), 0);
        Check.illegalState("b can step", none::pass);
        PawnRace one = Check.read("pawn a 0 0 north;pawn b 4 4 south;ban a north from 0 0 to 4 4;");
        Check.illegalState("one step is left", one::pass);
        PawnRace jump = Check.read("pawn a 0 0 north;pawn b 0 1 south;pawn c 4 4 south;ban a east from 0 0 to 4 4;");
        Check.illegalState("one jump is left", jump::pass);
        PawnRace wall = Check.read("pawn a 0 0 north;pawn b 4 4 south;" + shut);
        Check.due("a builds instead", wall.build(2, 2, true), 4);
        PawnRace skips = Check.read("pawn c 1 4 south;pawn a 0 0 north;pawn b 4 3 north;pawn d 3 3 south;" + shut);
        skips.step(2);
        Check.due("pass", skips.pass(), 2);
        skips.step(0);
        skips.step(2);
        skips.step(2);
        Check.due("b is left out", skips.pass(), 3);
        Check.illegalState("nobody is there", () -> new PawnRace().pass());
        Check.illegalState("one alone", () -> Check.read("pawn a 0 0 north;" + shut).pass());
    }

    /** "The race is over .. if 200 turns were made": steps, walls and passes are turns. */
    private static void lastTurn() {
        // neither can leave its row; a can step to and fro, b can only pass
        PawnRace race = Check.read("pawn a 0 0 north walls 2;pawn b 4 4 south walls 2;ban a north from 0 0 to 4 4;"
            + "ban b south from 4 4 to 4 4;ban b west from 4 4 to 4 4;");
        race.build(1, 1, true);
        race.build(2, 2, true);
        for (int turn = 2; turn < 200; turn++) {
            Check.due("turns", race.setting(4), turn);
            if (turn == 2 || turn > 197) {
                Check.due("isOver", race.isOver(), false);
                Check.due("turnOf", race.turnOf(), turn % 2);
                Check.due("canStep", race.canStep(0, turn / 2 % 2 == 1 || turn % 2 == 1 ? 1 : 3), turn % 4 != 0);
            }
            if (turn % 2 == 0) {
                race.step(turn % 4 == 2 ? 1 : 3);
            } else {
                Check.due("pass", race.pass(), turn == 199 ? NONE : 0);
            }
        }
        Check.due("turns", race.setting(4), 200);
        Check.due("isOver", race.isOver(), true);
        Check.due("turnOf", race.turnOf(), NONE);
        Check.due("nobody has finished", race.setting(5), 0);
        Check.due("steps", race.steps(0), 0);
        Check.due("advised", race.advised(0), NONE);
        Check.illegalState("step", () -> race.step(1));
        Check.illegalState("build", () -> race.build(0, 0, true));
        Check.illegalState("pass", race::pass);
    }

    /** "The race is over if fewer than two pawns have not finished" */
    private static void tooFew() {
        String[] pawns = {"", "pawn a 0 0 north;", "pawn b 1 3 north;", "pawn c 2 3 north;", "pawn d 3 3 north;"};
        StringBuilder text = new StringBuilder();
        for (int number = 0; number <= 4; number++) {
            text.append(pawns[number]);
            PawnRace race = Check.read(text.toString());
            Check.due("isOver of " + number, race.isOver(), number < 2);
            Check.due("turnOf of " + number, race.turnOf(), number < 2 ? NONE : 0);
            if (number < 2) {
                Check.illegalState("step", () -> race.step(0));
                Check.illegalState("build", () -> race.build(0, 0, true));
                Check.due("play", race.play(0, 99), 0);
            } else {
                race.step(0);
            }
            for (int finished = 1; finished < number; finished++) {
                Check.due("isOver", race.isOver(), false);
                race.step(0);
                Check.due("isOver of " + number + " and " + finished, race.isOver(), number - finished < 2);
            }
            Check.due("turnOf at the end", race.turnOf(), NONE);
        }
    }

    /** build(): "if the race is over, it has no wall, or the wall is not admissible"; it "still has" one less. */
    private static void buildsIfItHasOne() {
        PawnRace race = Check.read("board 9 9;pawn a 0 0 north walls 2;pawn b 8 8 south walls 0;");
        Check.due("build", race.build(0, 0, false), 1);
        Check.due("walls", race.pawn(0, 3), 1);
        Check.illegalState("b has none", () -> race.build(2, 0, false));
        Check.due("walls of b", race.pawn(1, 3), 0);
        Check.outOfBounds("no such place", () -> race.build(8, 0, false));
        race.step(2);
        Check.illegalState("at its place", () -> race.build(0, 0, true));
        Check.illegalState("beside", () -> race.build(1, 0, false));
        Check.due("the last one", race.build(7, 7, true), 0);
        race.step(2);
        Check.illegalState("no more", () -> race.build(3, 3, true));
        Check.outOfBounds("no such place", () -> race.build(3, -1, true));
        Check.due("walls on the board", race.setting(3), 2);
        PawnRace most = Check.read("board 9 9;pawn a 0 0 north walls 20;pawn b 8 8 south;");
        Check.due("of twenty", most.build(0, 0, true), 19);
    }
}
