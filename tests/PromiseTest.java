/** Promises 1 and 8 to 45, one after the other, with answers found by hand; texts are in TextTest. */
public final class PromiseTest {
    private static final int NONE = PawnRace.NONE;
    private static final String TWO = "pawn a 2 0 north;pawn b 2 4 south;";
    /** The cells with x up to 1 and y up to 1 hang together, and with nothing else. */
    private static final String CORNER = "block 0 1 level;block 1 0 upright;";

    private PromiseTest() {
    }

    public static void main(String[] args) {
        newObject();
        setting();
        pawn();
        turnsInOrder();
        overByTurns();
        cells();
        ranks();
        wallsAndBlocks();
        admissible();
        regions();
        jumps();
        bans();
        distances();
        ways();
        gates();
        waysWithBans();
        longestWaysWithBans();
        waysByModulus();
        leader();
        advised();
        bestWall();
        harm();
        foreseen();
        step();
        build();
        pass();
        playSteps();
        playWalls();
        report();
        longestReport();
        undo();
        undoScript();
        saveAndRestore();
        orderOfExceptions();
        Check.end();
    }

    // ---- promise 1

    private static void newObject() {
        PawnRace race = new PawnRace();
        Check.due("width", race.setting(0), 5);
        Check.due("height", race.setting(1), 5);
        for (int what = 2; what <= 6; what++) {
            Check.due("setting " + what, race.setting(what), 0);
        }
        Check.due("turnOf", race.turnOf(), NONE);
        Check.due("isOver", race.isOver(), true);
        Check.due("errorCode", race.errorCode(), 0);
        Check.due("errorPosition", race.errorPosition(), NONE);
        Check.due("leader", race.leader(), NONE);
        Check.due("undo", race.undo(), NONE);
        Check.illegalState("restore", race::restore);
        Check.outOfBounds("reportByte", () -> race.reportByte(0));
        Check.illegalArgument("truncate", () -> race.truncate(1));
        Check.outOfBounds("steps", () -> race.steps(0));
        Check.illegalState("step", () -> race.step(0));
        Check.illegalState("build", () -> race.build(0, 0, true));
        Check.illegalState("pass", race::pass);
        Check.due("NONE", NONE, -1);
    }

    // ---- promises 8 to 13

    private static void setting() {
        PawnRace race = Check.read("board 9 3;pawn a 0 1 east;pawn b 3 0 north;pawn c 4 2 south;"
            + "block 6 0 level;ban a back;ban a again;ban c back;");
        int[] due = {9, 3, 3, 1, 0, 0, 3};
        for (int what = 0; what < due.length; what++) {
            Check.due("setting " + what, race.setting(what), due[what]);
        }
        race.build(0, 0, false);
        race.step(0);
        Check.due("walls", race.setting(3), 2);
        Check.due("turns", race.setting(4), 2);
        Check.due("finished", race.setting(5), 0);
        race.step(2);
        race.step(1);
        race.step(0);
        Check.due("finished", race.setting(5), 1);
        Check.illegalArgument("setting(-1)", () -> race.setting(-1));
        Check.illegalArgument("setting(7)", () -> race.setting(7));
    }

    private static void pawn() {
        PawnRace race = Check.read("walls 4;pawn a 3 1 west;pawn b 0 0 north walls 9;ban b back;");
        int[] first = {3, 1, 3, 4, 0, NONE, 0, 0};
        int[] second = {0, 0, 0, 9, 0, NONE, 0, 1};
        for (int what = 0; what < 8; what++) {
            Check.due("pawn a " + what, race.pawn(0, what), first[what]);
            Check.due("pawn b " + what, race.pawn(1, what), second[what]);
        }
        race.step(0);
        race.build(3, 3, true);
        race.step(3);
        Check.due("x", race.pawn(0, 0), 2);
        Check.due("y", race.pawn(0, 1), 2);
        Check.due("walls of b", race.pawn(1, 3), 8);
        Check.due("steps", race.pawn(0, 4), 2);
        Check.due("latest", race.pawn(0, 5), 3);
        Check.due("steps of b", race.pawn(1, 4), 0);
        race.step(0);
        race.step(3);
        race.step(1);
        race.step(3);
        Check.due("x of the last cell", race.pawn(0, 0), 0);
        Check.due("y of the last cell", race.pawn(0, 1), 2);
        Check.due("rank", race.pawn(0, 6), 1);
        Check.due("rank of b", race.pawn(1, 6), 0);
        Check.illegalArgument("pawn(0, -1)", () -> race.pawn(0, -1));
        Check.illegalArgument("pawn(0, 8)", () -> race.pawn(0, 8));
        Check.outOfBounds("pawn(2, 0)", () -> race.pawn(2, 0));
        Check.outOfBounds("pawn(-1, 0)", () -> race.pawn(-1, 0));
    }

    private static void turnsInOrder() {
        // b is one step from its side, the others are farther
        PawnRace race = Check.read("pawn a 0 0 north;pawn b 1 3 north;pawn c 2 0 north;");
        Check.due("turnOf", race.turnOf(), 0);
        race.step(0);
        Check.due("turnOf", race.turnOf(), 1);
        Check.due("distance of b then", race.step(0), 0);
        Check.due("turnOf", race.turnOf(), 2);
        race.step(0);
        Check.due("turnOf", race.turnOf(), 0);
        race.step(0);
        Check.due("b is left out", race.turnOf(), 2);
        race.build(0, 0, false);
        Check.due("turnOf", race.turnOf(), 0);
        race.step(0);
        race.step(0);
        Check.due("isOver", race.isOver(), false);
        race.step(0);
        Check.due("isOver", race.isOver(), true);
        Check.due("turnOf", race.turnOf(), NONE);
        Check.due("one pawn", Check.read("pawn a 0 0 north;").isOver(), true);
        Check.due("two pawns", Check.read(TWO).isOver(), false);
    }

    private static void overByTurns() {
        // both may step to and fro only: north and south are banned everywhere
        PawnRace race = Check.read("pawn a 0 0 north;pawn b 0 4 south;"
            + "ban a north from 0 0 to 4 4;ban b south from 4 4 to 0 0;");
        for (int i = 0; i < 100; i++) {
            Check.due("isOver", race.isOver(), false);
            race.step(i % 2 == 0 ? 1 : 3);
            Check.due("turnOf", race.turnOf(), 1);
            race.step(i % 2 == 0 ? 1 : 3);
        }
        Check.due("turns", race.setting(4), 200);
        Check.due("isOver", race.isOver(), true);
        Check.due("turnOf", race.turnOf(), NONE);
        Check.due("steps", race.steps(0), 0);
        Check.due("canStep", race.canStep(0, 1), false);
        Check.due("advised", race.advised(0), NONE);
        Check.due("leader", race.leader(), 0);
        Check.due("isBanned", race.isBanned(0, 0), true);
        Check.due("admissible", race.admissible(), 32);
        Check.illegalState("step", () -> race.step(1));
        Check.illegalState("build", () -> race.build(0, 0, true));
        Check.illegalState("pass", race::pass);
        Check.due("play", race.play(1, 99), 0);
        Check.due("undo", race.undo(), 5);
        Check.due("undo", race.undo(), 4);
        Check.due("isOver", race.isOver(), false);
        Check.due("play", race.play(0, 99), 1);
        Check.due("isOver", race.isOver(), true);
    }

    private static void cells() {
        PawnRace race = Check.read("board 3 4;pawn a 0 0 north;pawn b 2 3 west;");
        Check.due("pawnAt", race.pawnAt(0, 0), 0);
        Check.due("pawnAt", race.pawnAt(2, 3), 1);
        Check.due("pawnAt", race.pawnAt(2, 2), NONE);
        Check.outOfBounds("pawnAt", () -> race.pawnAt(3, 0));
        Check.outOfBounds("pawnAt", () -> race.pawnAt(0, 4));
        Check.outOfBounds("pawnAt", () -> race.pawnAt(-1, 0));
        Check.outOfBounds("pawnAt", () -> race.pawnAt(0, -1));
        Check.outOfBounds("pawnAt", () -> race.pawnAt(Integer.MAX_VALUE, Integer.MIN_VALUE));
        race.step(0);
        race.step(3);
        Check.due("pawnAt", race.pawnAt(0, 0), NONE);
        Check.due("pawnAt", race.pawnAt(0, 1), 0);
        race.step(0);
        race.step(3);
        Check.due("one that has finished is on no cell", race.pawnAt(0, 3), NONE);
    }

    private static void ranks() {
        PawnRace race = Check.read("pawn a 0 2 north;pawn b 1 3 north;pawn c 2 0 north;pawn d 3 3 north;");
        race.step(0);
        race.step(0);
        race.step(0);
        race.step(0);
        Check.due("ranked(1)", race.ranked(1), 1);
        Check.due("ranked(2)", race.ranked(2), 3);
        Check.due("ranked(3)", race.ranked(3), NONE);
        Check.due("ranked(0)", race.ranked(0), NONE);
        Check.due("ranked(-1)", race.ranked(-1), NONE);
        Check.due("ranked", race.ranked(Integer.MAX_VALUE), NONE);
        race.step(0);
        Check.due("ranked(3)", race.ranked(3), 0);
        Check.due("rank", race.pawn(0, 6), 3);
        Check.due("isOver", race.isOver(), true);
        Check.due("rank of c", race.pawn(2, 6), 0);
    }

    // ---- promises 14 to 18

    private static void wallsAndBlocks() {
        PawnRace race = Check.read("block 1 1 level;block 3 2 upright;");
        Check.due("wallAt", race.wallAt(1, 1), 0);
        Check.due("wallAt", race.wallAt(3, 2), 1);
        Check.due("wallAt", race.wallAt(2, 1), NONE);
        Check.due("wallAt", race.wallAt(1, 2), NONE);
        Check.outOfBounds("wallAt", () -> race.wallAt(4, 0));
        Check.outOfBounds("wallAt", () -> race.wallAt(0, 4));
        Check.outOfBounds("wallAt", () -> race.wallAt(-1, 0));
        Check.outOfBounds("wallAt", () -> race.wallAt(0, -1));
        int[][] blocked = {{1, 1, 0}, {2, 1, 0}, {1, 2, 2}, {2, 2, 2}, {3, 2, 1}, {3, 3, 1}, {4, 2, 3}, {4, 3, 3},
            {0, 0, 2}, {0, 0, 3}, {4, 4, 0}, {4, 4, 1}, {0, 4, 0}};
        for (int[] step : blocked) {
            Check.due("isBlocked", race.isBlocked(step[0], step[1], step[2]), true);
        }
        int[][] open = {{0, 1, 0}, {3, 1, 0}, {1, 1, 1}, {1, 1, 2}, {1, 1, 3}, {3, 1, 1}, {3, 4, 1}, {3, 2, 0},
            {0, 2, 2}, {3, 2, 3}, {0, 0, 0}, {0, 0, 1}, {4, 4, 2}, {4, 4, 3}};
        for (int[] step : open) {
            Check.due("isBlocked", race.isBlocked(step[0], step[1], step[2]), false);
        }
        Check.outOfBounds("isBlocked", () -> race.isBlocked(5, 0, 0) ? 1 : 0);
        Check.outOfBounds("isBlocked", () -> race.isBlocked(0, -1, 0) ? 1 : 0);
        Check.illegalArgument("isBlocked", () -> race.isBlocked(0, 0, -1) ? 1 : 0);
        Check.illegalArgument("isBlocked", () -> race.isBlocked(0, 0, 4) ? 1 : 0);
        Check.outOfBounds("isBlocked", () -> race.isBlocked(0, 5, 4) ? 1 : 0);
    }

    private static void admissible() {
        PawnRace race = Check.read("block 1 1 level;");
        Check.due("at its place", race.isAdmissible(1, 1, true), false);
        Check.due("at its place", race.isAdmissible(1, 1, false), false);
        Check.due("beside", race.isAdmissible(0, 1, false), false);
        Check.due("beside", race.isAdmissible(2, 1, false), false);
        Check.due("of the other way", race.isAdmissible(0, 1, true), true);
        Check.due("farther", race.isAdmissible(3, 1, false), true);
        Check.due("above", race.isAdmissible(1, 2, false), true);
        Check.due("admissible", race.admissible(), 28);
        PawnRace upright = Check.read("block 1 1 upright;");
        Check.due("beside", upright.isAdmissible(1, 0, true), false);
        Check.due("beside", upright.isAdmissible(1, 2, true), false);
        Check.due("of the other way", upright.isAdmissible(1, 0, false), true);
        Check.due("beside in the other way", upright.isAdmissible(0, 1, true), true);
        Check.due("admissible", upright.admissible(), 28);
        Check.outOfBounds("isAdmissible", () -> race.isAdmissible(4, 0, true) ? 1 : 0);
        Check.outOfBounds("isAdmissible", () -> race.isAdmissible(0, -1, false) ? 1 : 0);
        Check.due("none in the corner", Check.read("block 0 1 level;").isAdmissible(1, 0, true), true);
        Check.due("one in it", Check.read("block 0 1 level;pawn a 1 1 north;").isAdmissible(1, 0, true), false);
        Check.due("one in it", Check.read("block 0 1 level;pawn a 1 1 south;").isAdmissible(1, 0, true), true);
        // a has finished in the corner: it needs no way
        PawnRace finished = Check.read("pawn a 1 0 west;pawn b 4 0 north;pawn c 4 4 south;block 0 1 level;");
        Check.due("one on its way", finished.isAdmissible(1, 0, true), true);
        PawnRace inside = Check.read("pawn a 0 1 south;pawn b 4 1 north;pawn c 4 4 south;");
        inside.step(2);
        Check.due("finished", inside.pawn(0, 6), 1);
        inside.build(0, 1, false);
        Check.due("with one that has finished", inside.isAdmissible(1, 0, true), true);
        Check.due("with all walls free", Check.read("board 3 3;").admissible(), 8);
        Check.due("with all walls free", Check.read("board 9 9;").admissible(), 128);
    }

    private static void regions() {
        Check.due("regions", Check.read("").regions(), 1);
        Check.due("regions", Check.read(CORNER).regions(), 2);
        Check.due("regions", Check.read("board 9 3;" + "block 1 0 upright;").regions(), 1);
        Check.due("regions", Check.read(CORNER + "block 3 1 level;block 2 0 upright;").regions(), 3);
        Check.due("regions", Check.read("board 4 4;" + CORNER + "block 2 1 level;").regions(), 3);
        Check.due("regions", Check.read("board 4 4;" + CORNER + "block 2 1 level;block 1 2 upright;").regions(), 4);
    }

    // ---- promises 19 to 21

    private static void jumps() {
        PawnRace race = Check.read("pawn a 2 1 north;pawn b 2 2 south;pawn c 1 1 east;");
        Check.due("all four are steps or jumps", race.steps(0), 15);
        Check.due("canStep over b", race.canStep(0, 0), true);
        Check.due("canStep over c", race.canStep(0, 3), true);
        race.step(0);
        Check.due("x behind b", race.pawn(0, 0), 2);
        Check.due("y behind b", race.pawn(0, 1), 3);
        Check.due("a jump is one step", race.pawn(0, 4), 1);
        Check.due("its direction", race.pawn(0, 5), 0);
        Check.due("b north over a", race.canStep(1, 0), true);
        Check.due("canStep of one whose turn it is not", race.canStep(0, 1), true);
        Check.due("canStep of one whose turn it is not", race.canStep(2, 0), true);
        Check.illegalArgument("canStep", () -> race.canStep(0, 4) ? 1 : 0);
        Check.illegalArgument("canStep", () -> race.canStep(0, -1) ? 1 : 0);
        Check.outOfBounds("canStep", () -> race.canStep(3, 0) ? 1 : 0);
        Check.outOfBounds("steps", () -> race.steps(3));
        // no cell behind: the edge, a wall ahead, a wall behind, a third pawn
        Check.due("edge", Check.read("pawn a 2 3 west;pawn b 2 4 south;").steps(0), 2 + 4 + 8);
        Check.due("wall ahead",
            Check.read("pawn a 2 1 north;pawn b 2 2 south;block 2 1 level;").canStep(0, 0), false);
        Check.due("wall behind",
            Check.read("pawn a 2 1 north;pawn b 2 2 south;block 1 2 level;").canStep(0, 0), false);
        Check.due("wall beside",
            Check.read("pawn a 2 1 north;pawn b 2 2 south;block 3 2 level;").canStep(0, 0), true);
        Check.due("third pawn",
            Check.read("pawn a 2 1 north;pawn b 2 2 south;pawn c 2 3 south;").canStep(0, 0), false);
        // by a jump to its side; and one that has finished is in nobody's way
        PawnRace ends = Check.read("pawn a 2 2 north;pawn b 2 3 south;pawn c 0 0 east;");
        Check.due("distance then", ends.step(0), 0);
        Check.due("rank", ends.pawn(0, 6), 1);
        Check.due("a has finished", ends.steps(0), 0);
        Check.due("a has finished", ends.canStep(0, 3), false);
        Check.due("b over no one", ends.canStep(1, 0), true);
        ends.step(0);
        Check.due("b at the cell of a", ends.pawnAt(2, 4), 1);
    }

    private static void bans() {
        PawnRace race = Check.read("board 9 9;pawn a 4 4 north;pawn b 0 0 north;ban a back;ban b again;");
        for (int d = 0; d < 4; d++) {
            Check.due("none ahead of the first step", race.isBanned(0, d), false);
            Check.due("none ahead of the first step", race.isBanned(1, d), false);
        }
        race.step(1);
        race.step(0);
        for (int d = 0; d < 4; d++) {
            Check.due("back", race.isBanned(0, d), d == 3);
            Check.due("again", race.isBanned(1, d), d == 0);
        }
        Check.due("steps of a", race.steps(0), 1 + 2 + 4);
        Check.due("steps of b", race.steps(1), 2 + 4);
        Check.illegalState("step back", () -> race.step(3));
        race.step(2);
        race.step(1);
        Check.due("the latest step alone", race.isBanned(0, 3), false);
        Check.due("back", race.isBanned(0, 0), true);
        Check.due("again", race.isBanned(1, 0), false);
        Check.due("again", race.isBanned(1, 1), true);
        Check.illegalArgument("isBanned", () -> race.isBanned(0, 4) ? 1 : 0);
        Check.illegalArgument("isBanned", () -> race.isBanned(0, -1) ? 1 : 0);
        Check.outOfBounds("isBanned", () -> race.isBanned(2, 0) ? 1 : 0);

        PawnRace every = Check.read("board 9 9;pawn a 4 0 north;pawn b 0 0 north;ban a west every 3 at 1;"
            + "ban b east from 2 1 to 0 3;");
        boolean[] west = {false, true, false, false, true, false};
        for (int made = 0; made < west.length; made++) {
            Check.due("west behind " + made, every.isBanned(0, 3), west[made]);
            Check.due("north behind " + made, every.isBanned(0, 0), false);
            every.step(0);
            // b goes north by the cells 0, 1 to 0, 6
            Check.due("east at " + made, every.isBanned(1, 1), made >= 1 && made <= 3);
            every.step(0);
        }
        PawnRace cell = Check.read("pawn a 2 2 north;pawn b 0 0 north;ban a south from 2 2 to 2 2;");
        Check.due("from one cell", cell.steps(0), 1 + 2 + 8);
        PawnRace over = Check.read("pawn a 2 2 north;pawn b 2 3 south;ban a north every 2 at 0;");
        Check.due("a ban of jumps, too", over.canStep(0, 0), false);
    }

    // ---- promises 22 to 27

    private static void distances() {
        PawnRace race = Check.read("board 5 7;pawn a 1 2 north;pawn b 1 3 east;pawn c 4 4 south;pawn d 3 6 west;");
        Check.due("distance", race.distance(0), 4);
        Check.due("distance", race.distance(1), 3);
        Check.due("distance", race.distance(2), 4);
        Check.due("distance", race.distance(3), 3);
        Check.due("distanceFrom", race.distanceFrom(0, 4, 6), 0);
        Check.due("distanceFrom", race.distanceFrom(0, 0, 0), 6);
        Check.due("distanceFrom", race.distanceFrom(3, 4, 0), 4);
        Check.outOfBounds("distanceFrom", () -> race.distanceFrom(0, 5, 0));
        Check.outOfBounds("distanceFrom", () -> race.distanceFrom(0, 0, 7));
        Check.outOfBounds("distanceFrom", () -> race.distanceFrom(4, 0, 0));
        Check.outOfBounds("distance", () -> race.distance(4));
        Check.outOfBounds("distance", () -> race.distance(-1));
        // a wall over the cells 2 and 3; with an upright one at its west end there is just the way by the cell 4, 0
        PawnRace walls = Check.read(TWO + "block 2 0 level;");
        Check.due("distance", walls.distance(0), 5);
        walls = Check.read(TWO + "block 2 0 level;block 1 0 upright;");
        Check.due("distance", walls.distance(0), 6);
        PawnRace corner = Check.read("pawn a 4 0 north;" + CORNER);
        Check.due("no way", corner.distanceFrom(0, 1, 1), NONE);
        Check.due("no way", corner.distanceFrom(0, 0, 0), NONE);
        Check.due("beside", corner.distanceFrom(0, 2, 0), 4);
        PawnRace done = Check.read("pawn a 2 3 north;pawn b 4 0 west;");
        done.step(0);
        Check.due("finished", done.distance(0), 0);
        Check.due("from elsewhere", done.distanceFrom(0, 4, 0), 4);
    }

    private static void ways() {
        PawnRace race = Check.read(TWO);
        Check.due("ways", race.ways(0), 1);
        Check.due("onWays", race.onWays(0), 5);
        // over a wall of two cells: from 2, 0 by 1, 0 to column 1 and north; the other end is a step farther
        race = Check.read(TWO + "block 2 0 level;");
        Check.due("ways", race.ways(0), 1);
        Check.due("onWays", race.onWays(0), 6);
        // over the third cell of its column: it may leave the column at any of these
        race = Check.read(TWO + "block 2 2 level;");
        Check.due("ways", race.ways(0), 3);
        Check.due("onWays", race.onWays(0), 8);
        // just the cell 0, 2 is open to the north: two steps west and two north in any order, then two north
        race = Check.read("board 5 5;pawn a 2 0 north;block 1 2 level;block 3 2 level;");
        Check.due("ways", race.ways(0), 6);
        Check.due("distance", race.distance(0), 6);
        Check.outOfBounds("ways", () -> Check.read(TWO).ways(2));
        Check.outOfBounds("onWays", () -> Check.read(TWO).onWays(2));
        PawnRace done = Check.read("pawn a 2 3 north;pawn b 4 0 west;");
        done.step(0);
        Check.due("finished", done.ways(0), 1);
        Check.due("finished", done.onWays(0), 1);
    }

    private static void gates() {
        Check.due("gates", Check.read(TWO).gates(0), 0);
        // a in a tunnel of one row: walls above and below, closed at the west, racing east
        PawnRace tunnel = Check.read("board 5 3;pawn a 0 1 north;block 0 1 level;block 2 1 level;");
        // all has to go over the cells 4, 1 and 4, 2
        Check.due("gates", tunnel.gates(0), 2);
        Check.due("isGate", tunnel.isGate(0, 4, 1), true);
        Check.due("isGate of the last cell", tunnel.isGate(0, 4, 2), true);
        Check.due("isGate", tunnel.isGate(0, 3, 1), false);
        Check.due("isGate of its own cell", tunnel.isGate(0, 0, 1), false);
        Check.due("isGate", tunnel.isGate(0, 0, 2), false);
        Check.outOfBounds("isGate", () -> tunnel.isGate(0, 5, 0) ? 1 : 0);
        Check.outOfBounds("isGate", () -> tunnel.isGate(0, 0, 3) ? 1 : 0);
        Check.outOfBounds("isGate", () -> tunnel.isGate(1, 0, 0) ? 1 : 0);
        Check.outOfBounds("gates", () -> tunnel.gates(1));
        PawnRace done = Check.read("pawn a 2 3 north;pawn b 4 0 west;");
        Check.due("gates", done.gates(0), 0);
        done.step(0);
        Check.due("finished", done.gates(0), 0);
        Check.due("finished", done.isGate(0, 2, 4), false);
        Check.due("finished", done.isGate(0, 2, 3), false);
    }

    // ---- promises 28 to 30

    private static void waysWithBans() {
        // on a column of three rows: north at once, or east or west first
        PawnRace race = Check.read("board 3 3;pawn a 1 1 north;pawn b 0 1 south;ban a north every 2 at 0;ban a back;");
        // no step north behind an even number of steps, so the first step goes aside, the second one north
        Check.due("stepsWithBans", race.stepsWithBans(0), 2);
        Check.due("waysWithBans 2", race.waysWithBans(0, 2), 2);
        Check.due("waysWithBans 1", race.waysWithBans(0, 1), 0);
        Check.due("waysWithBans 0", race.waysWithBans(0, 0), 0);
        Check.due("detour", race.detour(0), 1);
        Check.illegalArgument("waysWithBans", () -> race.waysWithBans(0, 201));
        Check.illegalArgument("waysWithBans", () -> race.waysWithBans(0, -1));
        Check.outOfBounds("waysWithBans", () -> race.waysWithBans(2, 201));
        Check.outOfBounds("stepsWithBans", () -> race.stepsWithBans(2));
        Check.outOfBounds("detour", () -> race.detour(2));
        // pawns are not in the way, the numbers count from the steps that were made, and the latest step matters
        PawnRace later = Check.read("board 3 5;pawn a 1 0 north;pawn b 1 1 south;ban a north every 2 at 1;");
        Check.due("stepsWithBans", later.stepsWithBans(0), 7);
        later.step(0);
        later.step(1);
        Check.due("behind a jump", later.pawn(0, 1), 2);
        Check.due("stepsWithBans", later.stepsWithBans(0), 4);
        Check.due("detour", later.detour(0), 2);
        // behind a step north, back bans the way down; behind one more aside it does not
        PawnRace back = Check.read("board 3 4;pawn a 1 1 south;pawn b 2 3 south;ban a back;");
        Check.due("stepsWithBans", back.stepsWithBans(0), 1);
        back.step(0);
        Check.due("distance", back.distance(0), 2);
        Check.due("stepsWithBans", back.stepsWithBans(0), 3);
        Check.due("waysWithBans", back.waysWithBans(0, 3), 2);
        PawnRace none = Check.read("pawn a 2 0 north;pawn b 2 4 south;ban a north from 0 2 to 4 2;");
        Check.due("stepsWithBans", none.stepsWithBans(0), NONE);
        Check.due("detour", none.detour(0), NONE);
        Check.due("waysWithBans", none.waysWithBans(0, 200), 0);
        Check.due("stepsWithBans", none.stepsWithBans(1), 4);
        // from the first and the last cell of the greatest board
        Check.due("cell 0, 0", Check.read("pawn a 0 0 north;ban a north from 0 0 to 0 0;").stepsWithBans(0), 5);
        Check.due("cell 8, 8",
            Check.read("board 9 9;pawn a 8 8 south;ban a south from 8 8 to 8 8;").stepsWithBans(0), 9);
        PawnRace done = Check.read("pawn a 2 3 north;pawn b 4 0 west;ban a back;");
        done.step(0);
        Check.due("finished", done.stepsWithBans(0), 0);
        Check.due("finished", done.waysWithBans(0, 0), 1);
        Check.due("finished", done.waysWithBans(0, 1), 0);
        Check.due("finished", done.detour(0), 0);
    }

    /** Texts that a search found: the least number is just 200 (the distance is 9, round a block), and 230. */
    private static void longestWaysWithBans() {
        PawnRace last = Check.read("board 9 9;pawn a 4 0 north;block 2 3 level;block 2 7 upright;block 6 1 upright;"
            + "block 3 4 level;ban a north every 5 at 2;ban a north every 3 at 2;ban a back;ban a west every 2 at 0;"
            + "ban a east every 2 at 0;ban a back;ban a east every 4 at 1;ban a west from 5 1 to 5 1;"
            + "ban a north every 4 at 1;ban a east every 2 at 0;");
        Check.due("stepsWithBans", last.stepsWithBans(0), 200);
        Check.due("detour", last.detour(0), 191);
        Check.due("waysWithBans 199", last.waysWithBans(0, 199), 0);
        Check.due("waysWithBans 200", last.waysWithBans(0, 200) > 0, true);
        PawnRace over = Check.read("board 9 9;pawn a 4 0 north;block 5 2 level;block 2 7 upright;block 0 6 upright;"
            + "block 7 3 upright;block 4 0 level;block 6 2 upright;block 6 1 level;block 1 6 level;block 6 7 level;"
            + "block 1 1 upright;block 2 5 level;block 4 2 upright;ban a north every 5 at 0;ban a east every 3 at 2;"
            + "ban a east every 4 at 2;ban a east every 3 at 1;ban a north every 2 at 0;ban a north every 3 at 0;"
            + "ban a again;");
        Check.due("stepsWithBans", over.stepsWithBans(0), NONE);
        Check.due("detour", over.detour(0), NONE);
        Check.due("waysWithBans 200", over.waysWithBans(0, 200), 0);
    }

    /** Without bans the walk over three columns up to a row can be counted by numbers too. */
    private static void waysByModulus() {
        PawnRace race = Check.read("board 3 3;pawn a 0 0 north;");
        long[][] now = new long[3][2];
        now[0][0] = 1;
        for (int n = 1; n <= 200; n++) {
            long[][] then = new long[3][2];
            long arrived = 0;
            for (int x = 0; x < 3; x++) {
                for (int y = 0; y < 2; y++) {
                    arrived += y == 1 ? now[x][y] : 0;
                    then[x][1 - y] = (then[x][1 - y] + now[x][y]) % 1000003;
                    for (int beside = x - 1; beside <= x + 1; beside += 2) {
                        if (beside >= 0 && beside < 3) {
                            then[beside][y] = (then[beside][y] + now[x][y]) % 1000003;
                        }
                    }
                }
            }
            if (n % 8 == 0 || n < 20) {
                Check.due("waysWithBans " + n, race.waysWithBans(0, n), arrived % 1000003);
            }
            now = then;
        }
    }

    // ---- promises 31 to 36

    private static void leader() {
        PawnRace race = Check.read("pawn a 0 0 north;pawn b 1 2 north;pawn c 2 2 north;");
        Check.due("leader", race.leader(), 1);
        race.step(0);
        race.build(1, 2, false);
        Check.due("both are farther", race.leader(), 0);
        race = Check.read("pawn a 0 3 north;pawn b 1 2 north;pawn c 3 1 east;pawn d 3 0 north;");
        Check.due("leader", race.leader(), 0);
    }

    private static void advised() {
        PawnRace race = Check.read(TWO);
        Check.due("advised", race.advised(0), 0);
        Check.due("advised", race.advised(1), 2);
        // a jump goes two cells; where it cannot be made the other ones stay, the lowest one of equal ones
        Check.due("advised", Check.read("pawn a 2 2 north;pawn b 3 2 west;").advised(1), 3);
        Check.due("advised", Check.read("pawn a 2 2 north;pawn b 3 2 west;pawn c 1 2 east;").advised(1), 0);
        Check.due("advised", Check.read(TWO + "ban a north every 2 at 0;").advised(0), 1);
        Check.due("advised", Check.read(TWO + "ban a north every 2 at 0;ban a east every 2 at 0;").advised(0), 3);
        PawnRace none = Check.read("board 3 3;pawn a 0 0 north;pawn b 0 1 east;pawn c 1 0 north;pawn d 2 0 north;"
            + "ban a north every 2 at 0;");
        Check.due("none", none.advised(0), NONE);
        Check.due("none", none.steps(0), 0);
        Check.outOfBounds("advised", () -> none.advised(4));
    }

    private static void bestWall() {
        PawnRace race = Check.read(TWO);
        // level walls over its column make it farther by one; the first one in order is that at 1, 0
        Check.due("bestWall", race.bestWall(0), 1);
        Check.due("gain", race.gain(0), 1);
        Check.due("bestWall", race.bestWall(1), 1);
        Check.due("gain", race.gain(1), 1);
        // level ones at y 0 and 1 would shut a up; that at y 2 makes it go round the cells 3 and 4
        race = Check.read("pawn a 4 0 north;pawn b 4 4 south;block 2 0 upright;");
        Check.due("bestWall", race.bestWall(0), 23);
        Check.due("gain", race.gain(0), 2);
        // upright: 100 more
        race = Check.read("pawn a 0 2 east;pawn b 4 2 west;");
        Check.due("bestWall", race.bestWall(0), 100 + 10);
        Check.due("gain", race.gain(0), 1);
        // nothing can block the last step of a, so the first admissible wall is the best one
        race = Check.read("pawn a 4 3 north;pawn b 0 4 south;block 2 3 level;");
        Check.due("bestWall", race.bestWall(0), 0);
        Check.due("gain", race.gain(0), 0);
        race = Check.read("pawn a 4 3 north;pawn b 0 4 south;block 2 3 level;block 0 0 level;");
        Check.due("bestWall", race.bestWall(0), 101);
        Check.due("gain", race.gain(0), 0);
        PawnRace none = Check.read("board 3 3;pawn a 0 1 north;block 0 0 level;block 1 0 upright;block 0 1 upright;"
            + "block 1 1 level;");
        Check.due("admissible", none.admissible(), 0);
        Check.due("bestWall", none.bestWall(0), NONE);
        Check.due("gain", none.gain(0), NONE);
        PawnRace done = Check.read("pawn a 2 3 north;pawn b 4 0 west;");
        done.step(0);
        Check.due("finished", done.bestWall(0), NONE);
        Check.due("finished", done.gain(0), NONE);
        Check.due("the race is over, b has not finished", done.gain(1), 2);
        Check.outOfBounds("bestWall", () -> done.bestWall(2));
        Check.outOfBounds("gain", () -> done.gain(-1));
    }

    private static void harm() {
        PawnRace race = Check.read("pawn a 4 0 north;pawn b 4 4 south;block 2 0 upright;");
        Check.due("harm", race.harm(0, 3, 2, false), 2);
        Check.due("harm", race.harm(0, 3, 3, false), 2);
        Check.due("harm", race.harm(0, 2, 2, false), 0);
        Check.due("harm", race.harm(1, 3, 2, false), 2);
        Check.due("harm", race.harm(0, 0, 0, true), 0);
        Check.due("walls stay", race.setting(3), 1);
        Check.due("no wall stays", race.wallAt(3, 2), NONE);
        Check.due("steps stay open", race.isBlocked(4, 2, 0), false);
        Check.illegalState("it would shut a up", () -> race.harm(0, 3, 0, false));
        Check.illegalState("it would shut a up", () -> race.harm(1, 3, 1, false));
        Check.illegalState("harm", () -> race.harm(0, 2, 0, true));
        Check.illegalState("harm", () -> race.harm(0, 2, 1, true));
        Check.outOfBounds("harm", () -> race.harm(0, 4, 0, true));
        Check.outOfBounds("harm", () -> race.harm(0, 0, 4, true));
        Check.outOfBounds("harm", () -> race.harm(2, 0, 0, true));
        PawnRace done = Check.read("pawn a 2 3 north;pawn b 4 0 west;");
        done.step(0);
        Check.due("finished", done.harm(0, 2, 2, false), 0);
    }

    private static void foreseen() {
        PawnRace race = Check.read("pawn a 2 1 north;pawn b 4 0 north;pawn c 0 2 north;");
        Check.due("c is first", race.foreseen(0, 6, 2), 1);
        Check.due("a is second", race.foreseen(0, 7, 0), 2);
        Check.due("not yet", race.foreseen(0, 6, 0), 0);
        Check.due("b is left", race.foreseen(0, 99, 1), 0);
        Check.due("turns stay", race.setting(4), 0);
        Check.due("a stays", race.pawn(0, 1), 1);
        Check.due("no undo", race.undo(), NONE);
        PawnRace walls = Check.read("walls 1;pawn a 2 0 north;pawn b 1 3 south;");
        Check.due("in mode 1", walls.foreseen(1, 1, 0), 0);
        Check.due("no wall is built", walls.pawn(0, 3), 1);
        Check.due("in mode 0 b is first", walls.foreseen(0, 99, 1), 1);
        Check.illegalArgument("foreseen", () -> race.foreseen(2, 1, 0));
        Check.illegalArgument("foreseen", () -> race.foreseen(-1, 1, 0));
        Check.illegalArgument("foreseen", () -> race.foreseen(0, 0, 0));
        Check.illegalArgument("foreseen", () -> race.foreseen(0, 100, 0));
        Check.outOfBounds("foreseen", () -> race.foreseen(2, 0, 3));
        Check.outOfBounds("foreseen", () -> race.foreseen(0, 1, -1));
    }

    // ---- promises 37 to 40

    private static void step() {
        PawnRace race = Check.read("pawn a 2 0 north;pawn b 0 4 south;ban b east from 0 4 to 0 4;");
        Check.due("step", race.step(0), 3);
        Check.illegalState("to the edge", () -> race.step(0));
        Check.illegalState("banned", () -> race.step(1));
        Check.illegalArgument("step", () -> race.step(4));
        Check.illegalArgument("step", () -> race.step(-1));
        Check.due("turns", race.setting(4), 1);
        Check.due("turnOf", race.turnOf(), 1);
        Check.due("step", race.step(2), 3);
        Check.due("aside", race.step(3), 3);
        Check.due("back", race.step(0), 4);
        Check.due("away", race.step(2), 4);
        PawnRace over = Check.read("pawn a 2 3 north;pawn b 0 4 south;");
        Check.due("step", over.step(0), 0);
        Check.illegalState("over", () -> over.step(2));
        Check.illegalArgument("over", () -> over.step(9));
    }

    private static void build() {
        PawnRace race = Check.read("walls 1;pawn a 2 0 north walls 2;pawn b 2 4 south;");
        Check.due("build", race.build(1, 1, true), 1);
        Check.due("wallAt", race.wallAt(1, 1), 1);
        Check.due("isBlocked", race.isBlocked(1, 1, 1), true);
        Check.due("isBlocked", race.isBlocked(2, 2, 3), true);
        Check.due("turnOf", race.turnOf(), 1);
        Check.illegalState("build", () -> race.build(1, 2, true));
        Check.outOfBounds("build", () -> race.build(4, 1, true));
        Check.outOfBounds("build", () -> race.build(1, -1, true));
        Check.due("build", race.build(3, 3, false), 0);
        Check.due("wallAt", race.wallAt(3, 3), 0);
        Check.due("build", race.build(3, 0, false), 0);
        Check.illegalState("no wall left", () -> race.build(0, 0, false));
        Check.due("turns", race.setting(4), 3);
        Check.due("a step is no wall", race.step(3), 4);
        PawnRace over = Check.read("pawn a 2 3 north;pawn b 0 4 south;");
        over.step(0);
        Check.illegalState("over", () -> over.build(0, 0, true));
        Check.outOfBounds("over", () -> over.build(0, 4, true));
    }

    private static void pass() {
        PawnRace race = Check.read("board 3 3;pawn a 0 0 north;pawn b 0 1 east;pawn c 1 0 north;pawn d 2 0 north;"
            + "ban a north every 2 at 0;");
        // a cannot jump over b, which it is banned to, nor over c to d
        Check.due("steps", race.steps(0), 0);
        Check.due("pass", race.pass(), 1);
        Check.due("turns", race.setting(4), 1);
        Check.illegalState("b can step", race::pass);
        race.step(1);
        race.step(0);
        Check.due("turnOf", race.turnOf(), 3);
        for (int left = 2; left >= 0; left--) {
            Check.due("undo", race.undo(), left);
        }
        Check.due("pass in a script", Check.run(race, "pass;step east;pass;"), 2);
        Check.due("turnOf", race.turnOf(), 2);
        PawnRace over = Check.read("pawn a 2 3 north;pawn b 0 4 south;");
        Check.illegalState("a can step", over::pass);
        over.step(0);
        Check.illegalState("over", over::pass);
        // the 200th turn is a pass of b, whose steps are all banned
        PawnRace last = Check.read("pawn a 0 0 north;pawn b 4 4 south;ban a north from 0 0 to 4 4;"
            + "ban b south from 4 4 to 4 4;ban b west from 4 4 to 4 4;");
        for (int i = 0; i < 99; i++) {
            last.step(i % 2 == 0 ? 1 : 3);
            Check.due("pass", last.pass(), 0);
        }
        last.step(1);
        Check.due("the last pass", last.pass(), NONE);
        Check.due("isOver", last.isOver(), true);
    }

    private static void playSteps() {
        PawnRace race = Check.read("walls 3;pawn a 2 0 north;pawn b 0 4 south;");
        Check.due("play", race.play(0, 3), 3);
        Check.due("a", race.pawn(0, 1), 2);
        Check.due("b", race.pawn(1, 1), 3);
        Check.due("walls", race.setting(3), 0);
        Check.due("undo", race.undo(), 0);
        Check.due("a", race.pawn(0, 1), 0);
        Check.due("until it is over", race.play(0, 99), 7);
        Check.due("ranked", race.ranked(1), 0);
        Check.due("play", race.play(0, 1), 0);
        Check.illegalArgument("play", () -> race.play(2, 1));
        Check.illegalArgument("play", () -> race.play(-1, 1));
        Check.illegalArgument("play", () -> race.play(0, 0));
        Check.illegalArgument("play", () -> race.play(0, 100));
        PawnRace stuck = Check.read("pawn a 0 0 north;pawn b 4 4 south;ban a north from 0 0 to 4 4;"
            + "ban b south from 4 4 to 4 4;ban b west from 4 4 to 4 4;");
        Check.due("play", stuck.play(0, 4), 4);
        Check.due("a went to and fro", stuck.pawn(0, 4), 2);
        Check.due("b passed", stuck.pawn(1, 4), 0);
    }

    private static void playWalls() {
        // b is nearer: a builds; then both are at 4, so b steps, to 3, and a builds again
        PawnRace race = Check.read("walls 2;pawn a 2 0 north;pawn b 2 3 south;");
        Check.due("play", race.play(1, 1), 1);
        Check.due("wall", race.wallAt(1, 0), 0);
        Check.due("walls of a", race.pawn(0, 3), 1);
        // the wall is in the way of a too: 5; b is at 4, so b steps and a builds
        Check.due("distance of a", race.distance(0), 5);
        Check.due("distance of b", race.distance(1), 4);
        race.play(1, 1);
        Check.due("b stepped", race.pawn(1, 4), 1);
        race.play(1, 1);
        Check.due("walls of a", race.pawn(0, 3), 0);
        Check.due("walls", race.setting(3), 2);
        race.play(1, 2);
        Check.due("without walls a steps", race.pawn(0, 4), 1);
        // equal distances: nobody builds
        PawnRace equal = Check.read("pawn a 2 0 north;pawn b 0 4 south;");
        equal.play(1, 1);
        Check.due("walls", equal.setting(3), 0);
        Check.due("a stepped", equal.pawn(0, 4), 1);
        equal.play(1, 1);
        Check.due("b builds, a is nearer", equal.setting(3), 1);
        // of two rivals the nearest one, of equally near ones the lowest one
        PawnRace rivals = Check.read("pawn a 0 0 north;pawn b 2 2 north;pawn c 4 2 north;");
        Check.due("bestWall against b", rivals.bestWall(1), 21);
        rivals.play(1, 1);
        Check.due("built against b", rivals.wallAt(1, 2), 0);
        // b is farther than c then, so b builds against c
        Check.due("distance of b", rivals.distance(1), 3);
        int against = rivals.bestWall(2);
        rivals.play(1, 1);
        Check.due("built against c", rivals.wallAt(against % 10, against / 10 % 10), against / 100);
        PawnRace mode = Check.read("walls 2;pawn a 2 0 north;pawn b 2 3 south;");
        mode.play(0, 1);
        Check.due("no walls in mode 0", mode.setting(3), 0);
    }

    // ---- promises 41 to 45

    private static void report() {
        PawnRace race = Check.read("board 3 4;pawn a 0 0 north;pawn b 2 3 west;block 1 2 upright;block 0 1 level;"
            + "block 1 0 level;block 0 2 upright;");
        Check.due("report", Check.report(race), "..1\n...\n...\n0..\n-10-01|02|12\n");
        Check.due("bytes", race.report(), 29);
        Check.outOfBounds("reportByte", () -> race.reportByte(29));
        Check.outOfBounds("reportByte", () -> race.reportByte(-1));
        race.step(0);
        Check.due("the latest report", race.reportByte(12), '0');
        Check.due("report", Check.report(race), "..1\n...\n0..\n...\n-10-01|02|12\n");
        PawnRace done = Check.read("board 4 3;pawn a 1 1 north;pawn b 3 1 west;");
        done.step(0);
        Check.due("report", Check.report(done), "....\n...1\n....\n\n");
        Check.fill(done, "board 9 9;");
        done.readText();
        Check.due("it stays", done.reportByte(8), '1');
        Check.outOfBounds("it stays", () -> done.reportByte(16));
        Check.due("bytes", done.report(), 91);
        Check.due("the last byte", done.reportByte(90), '\n');
    }

    /** Walls at all 64 places, level and upright by turns: 40 blocks, and 24 that two pawns build. */
    private static void longestReport() {
        StringBuilder text = new StringBuilder("board 9 9;pawn a 8 1 south walls 12;pawn b 0 7 north walls 12;");
        StringBuilder due = new StringBuilder();
        for (int i = 0; i < 64; i++) {
            int x = i % 8;
            int y = i / 8;
            boolean upright = (x + y) % 2 == 1;
            due.append(upright ? '|' : '-').append(x).append(y);
            if (i < 40) {
                text.append("block").append(x).append(' ').append(y).append(upright ? "upright;" : "level;");
            }
        }
        PawnRace race = Check.read(text.toString());
        for (int i = 40; i < 64; i++) {
            Check.due("walls left", race.build(i % 8, i / 8, (i % 8 + i / 8) % 2 == 1), 11 - (i - 40) / 2);
        }
        String rows = ".........\n";
        String report = rows + "1........\n" + rows.repeat(5) + "........0\n" + rows + due + "\n";
        Check.due("report", Check.report(race), report);
        Check.due("bytes", race.report(), 283);
        Check.due("walls", race.setting(3), 64);
        Check.due("admissible", race.admissible(), 0);
        Check.due("bestWall", race.bestWall(0), NONE);
        Check.due("play", race.play(1, 99), 1);
    }

    private static void undo() {
        PawnRace race = Check.read("board 3 9;pawn a 0 0 north;pawn b 2 8 south;");
        for (int i = 0; i < 4; i++) {
            race.step(0);
            race.step(2);
        }
        Check.due("undo", race.undo(), 5);
        Check.due("turn", race.turnOf(), 1);
        Check.due("turns", race.setting(4), 7);
        Check.due("b", race.pawn(1, 1), 5);
        for (int left = 4; left >= 0; left--) {
            Check.due("undo", race.undo(), left);
        }
        Check.due("turns", race.setting(4), 2);
        Check.due("a", race.pawn(0, 1), 1);
        Check.due("undo", race.undo(), NONE);
        Check.due("turns", race.setting(4), 2);
        race.build(0, 0, false);
        Check.illegalState("build", () -> race.build(0, 0, false));
        Check.illegalState("pass", race::pass);
        Check.illegalArgument("play", () -> race.play(0, 0));
        race.isAdmissible(1, 1, true);
        race.foreseen(1, 9, 0);
        Check.due("undo of the wall", race.undo(), 0);
        Check.due("walls", race.setting(3), 0);
        Check.due("walls of a", race.pawn(0, 3), 5);
        Check.due("isBlocked", race.isBlocked(0, 0, 0), false);
        Check.due("latest", race.pawn(0, 5), 0);
        Check.due("steps", race.pawn(0, 4), 1);
        PawnRace end = Check.read("pawn a 2 3 north;pawn b 0 4 south;");
        end.step(0);
        end.undo();
        Check.due("rank", end.pawn(0, 6), 0);
        Check.due("finished", end.setting(5), 0);
        Check.due("turnOf", end.turnOf(), 0);
        Check.due("pawnAt", end.pawnAt(2, 3), 0);
    }

    private static void undoScript() {
        PawnRace race = Check.read(TWO);
        Check.due("run", Check.run(race, "repeat 2(step north;step south;);step north;"), 5);
        Check.due("b jumped over a", race.pawn(1, 1), 1);
        Check.due("run", Check.run(race, "pass;"), 0);
        Check.due("undo of no command", race.undo(), 1);
        Check.due("turns", race.setting(4), 5);
        Check.due("undo as a whole", race.undo(), 0);
        Check.due("turns", race.setting(4), 0);
        Check.due("errorCode", race.errorCode(), 0);
        Check.due("a wall", Check.run(race, "wall 0 0 upright;wall 0 1 upright;"), 1);
        Check.due("undo", race.undo(), 0);
        Check.due("walls", race.setting(3), 0);
    }

    private static void saveAndRestore() {
        PawnRace race = Check.read("pawn a 2 0 north;pawn b 0 4 south;ban a back;block 0 0 level;");
        race.step(0);
        Check.due("save", race.save(), 1);
        race.build(3, 3, true);
        race.step(0);
        Check.due("restore", race.restore(), 1);
        Check.due("turnOf", race.turnOf(), 1);
        Check.due("walls", race.setting(3), 1);
        Check.due("a", race.pawn(0, 1), 1);
        Check.due("latest", race.pawn(0, 5), 0);
        Check.due("undo is forgotten", race.undo(), NONE);
        Check.fill(race, "board 9 9;");
        race.readText();
        Check.due("pawns", race.setting(2), 0);
        Check.due("what was saved stays", race.restore(), 1);
        Check.due("pawns", race.setting(2), 2);
        Check.due("width", race.setting(0), 5);
        Check.due("bans", race.setting(6), 1);
        Check.due("isBanned", race.isBanned(0, 2), true);
        race.step(2);
        Check.due("it stays", race.restore(), 1);
        race.step(2);
        Check.due("in place of the earlier one", race.save(), 2);
        race.step(1);
        Check.due("restore", race.restore(), 2);
        Check.due("turnOf", race.turnOf(), 0);
        race.step(1);
        Check.due("saving forgets no undo", race.save(), 3);
        Check.due("undo", race.undo(), 0);
        PawnRace fresh = new PawnRace();
        Check.illegalState("restore", fresh::restore);
        Check.due("save", fresh.save(), 0);
        Check.due("restore", fresh.restore(), 0);
    }

    private static void orderOfExceptions() {
        PawnRace race = Check.read(TWO);
        Check.outOfBounds("pawn", () -> race.pawn(2, 99));
        Check.outOfBounds("isBlocked", () -> race.isBlocked(9, 9, 9) ? 1 : 0);
        Check.outOfBounds("canStep", () -> race.canStep(9, 9) ? 1 : 0);
        Check.outOfBounds("isBanned", () -> race.isBanned(9, 9) ? 1 : 0);
        Check.outOfBounds("harm", () -> race.harm(9, 0, 0, true));
        PawnRace empty = new PawnRace();
        Check.illegalArgument("step", () -> empty.step(9));
        Check.outOfBounds("build", () -> empty.build(9, 0, true));
        Check.illegalArgument("play", () -> empty.play(9, 0));
        Check.outOfBounds("foreseen", () -> empty.foreseen(9, 0, 0));
    }
}
