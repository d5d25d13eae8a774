import java.math.BigInteger;

/**
 * Each sentence of the document's sections 5 and 6, and of promises 22 to 36 and 40, that names an edge: the sentence
 * stands above its test.
 */
public final class WayEdgeTest {
    private static final int NONE = PawnRace.NONE;
    private static final String[] SIDES = {"north", "east", "south", "west"};
    private static final String CORNER = "block 0 1 level;block 1 0 upright;";
    /** A maze that a search found: more shortest ways than the modulus. */
    private static final String MANY_WAYS = "board 9 9;pawn a 3 2 east;block 7 0 upright;block 3 1 level;"
        + "block 4 1 upright;block 2 2 upright;block 5 2 level;block 7 2 upright;block 1 3 level;block 5 3 upright;"
        + "block 2 4 upright;block 7 4 upright;block 3 5 level;block 5 5 level;block 7 5 level;block 4 6 upright;"
        + "block 7 7 upright;";
    /** No pawn can leave its row, nor come to its side. */
    private static final String TO_AND_FRO = "pawn a 0 0 north;pawn b 4 4 south;ban a north from 0 0 to 4 0;"
        + "ban b south from 0 4 to 4 4;";

    private WayEdgeTest() {
    }

    public static void main(String[] args) {
        pawnsThatThereAreNot();
        distances();
        farthest();
        noWay();
        finished();
        numbersByModulus();
        numberOfNoneByModulus();
        cellsOnWays();
        stepsThatWallsBlock();
        gates();
        gatesInCorners();
        forTheFirstTime();
        fromNowOn();
        rulesOfEach();
        numbersOfSteps();
        detours();
        leaders();
        adviceOfSeveral();
        adviceOfNone();
        orderOfWalls();
        greatestDistance();
        noWall();
        harms();
        foreseenTurns();
        playedTurns();
        rivals();
        otherwiseAStep();
        Check.end();
    }

    /** "The parameter pawn is the number of an existing one; otherwise IndexOutOfBoundsException is thrown." */
    private static void pawnsThatThereAreNot() {
        String[] pawns = {"", "pawn a 0 0 north;", "pawn b 1 0 north;", "pawn c 2 0 north;", "pawn d 3 0 north;"};
        StringBuilder text = new StringBuilder();
        for (int count = 0; count <= 4; count++) {
            text.append(pawns[count]);
            PawnRace race = Check.read(text.toString());
            for (int pawn : new int[] {Integer.MIN_VALUE, -1, 0, 1, 2, 3, 4, Integer.MAX_VALUE}) {
                boolean known = pawn >= 0 && pawn < count;
                Check.Call[] calls = {() -> race.pawn(pawn, 0), () -> race.canStep(pawn, 0) ? 1 : 0,
                    () -> race.isBanned(pawn, 0) ? 1 : 0, () -> race.steps(pawn), () -> race.distance(pawn),
                    () -> race.distanceFrom(pawn, 0, 0), () -> race.ways(pawn), () -> race.onWays(pawn),
                    () -> race.gates(pawn), () -> race.isGate(pawn, 0, 0) ? 1 : 0, () -> race.stepsWithBans(pawn),
                    () -> race.waysWithBans(pawn, 0), () -> race.detour(pawn), () -> race.advised(pawn),
                    () -> race.bestWall(pawn), () -> race.gain(pawn), () -> race.harm(pawn, 0, 0, true),
                    () -> race.foreseen(0, 1, pawn)};
                for (int i = 0; i < calls.length; i++) {
                    String outcome = Check.outcome(calls[i]);
                    Check.due("call " + i + " for " + pawn + " of " + count, outcome.startsWith("throws"), !known);
                    if (!known) {
                        Check.due("what it throws", outcome, "throws IndexOutOfBoundsException");
                    }
                }
            }
        }
    }

    // ---- distances

    /** "the least number of steps of a way from it to the side of the pawn": 0 at the side, to each of the sides. */
    private static void distances() {
        PawnRace race = Check.read("board 4 5;pawn a 1 1 north;pawn b 1 2 east;pawn c 2 2 south;pawn d 2 1 west;");
        for (int x = 0; x < 4; x++) {
            for (int y = 0; y < 5; y++) {
                int[] due = {4 - y, 3 - x, y, x};
                for (int pawn = 0; pawn < 4; pawn++) {
                    Check.due("distanceFrom " + x + " " + y, race.distanceFrom(pawn, x, y), due[pawn]);
                }
            }
        }
        int[] due = {3, 2, 2, 2};
        for (int pawn = 0; pawn < 4; pawn++) {
            Check.due("distance of " + pawn, race.distance(pawn), due[pawn]);
        }
    }

    /** Walls make a snake of the board: the farthest cell of it, and then a way round each of the walls. */
    private static void farthest() {
        PawnRace race = Check.read("board 9 9;pawn a 0 0 north;block 0 0 level;block 2 0 level;block 4 0 level;"
            + "block 6 0 level;block 1 1 level;block 3 1 level;block 5 1 level;block 7 1 level;block 0 2 level;"
            + "block 2 2 level;block 4 2 level;block 6 2 level;block 1 3 level;block 3 3 level;block 5 3 level;"
            + "block 7 3 level;block 0 4 level;block 2 4 level;block 4 4 level;block 6 4 level;block 1 5 level;"
            + "block 3 5 level;block 5 5 level;block 7 5 level;block 0 6 level;block 2 6 level;block 4 6 level;"
            + "block 6 6 level;block 1 7 level;block 3 7 level;block 5 7 level;block 7 7 level;");
        Check.due("distance", race.distance(0), 72);
        Check.due("ways", race.ways(0), 1);
        Check.due("onWays", race.onWays(0), 73);
        Check.due("gates", race.gates(0), 72);
        Check.due("the first cell is no gate", race.isGate(0, 0, 0), false);
        Check.due("the last one is", race.isGate(0, 0, 8), true);
        Check.due("one behind it is none", race.isGate(0, 1, 8), false);
        Check.due("stepsWithBans", race.stepsWithBans(0), 72);
        Check.due("regions", race.regions(), 1);
    }

    /** distanceFrom(): "NONE if there is no way" */
    private static void noWay() {
        PawnRace race = Check.read(CORNER + "pawn a 0 1 south;pawn b 4 0 north;pawn c 4 4 west;pawn d 3 3 south;");
        for (int x = 0; x < 5; x++) {
            for (int y = 0; y < 5; y++) {
                boolean inside = x < 2 && y < 2;
                Check.due("to the north", race.distanceFrom(1, x, y), inside ? NONE : 4 - y);
                Check.due("to the west", race.distanceFrom(2, x, y), x > 1 && y < 2 ? x + 2 - y : x);
                Check.due("to the south", race.distanceFrom(3, x, y) != NONE, true);
            }
        }
    }

    /** "(0 if it has finished)", "(1 if it has finished)" and their like, ways with bans too. */
    private static void finished() {
        PawnRace race = Check.read("pawn a 2 3 north;pawn b 4 4 south;pawn c 0 0 north;ban a back;"
            + "ban a east from 0 0 to 4 4;");
        race.step(0);
        for (int again = 0; again < 2; again++) {
            Check.due("distance", race.distance(0), 0);
            Check.due("ways", race.ways(0), 1);
            Check.due("onWays", race.onWays(0), 1);
            Check.due("gates", race.gates(0), 0);
            for (int cell = 0; cell < 25; cell++) {
                Check.due("isGate", race.isGate(0, cell % 5, cell / 5), false);
            }
            Check.due("stepsWithBans", race.stepsWithBans(0), 0);
            for (int n = 0; n <= 200; n += n < 3 ? 1 : 197) {
                Check.due("waysWithBans " + n, race.waysWithBans(0, n), n == 0 ? 1 : 0);
            }
            Check.illegalArgument("waysWithBans", () -> race.waysWithBans(0, 201));
            Check.due("detour", race.detour(0), 0);
            Check.due("advised", race.advised(0), NONE);
            Check.due("steps", race.steps(0), 0);
            Check.due("bestWall", race.bestWall(0), NONE);
            Check.due("gain", race.gain(0), NONE);
            Check.due("harm", race.harm(0, 0, 0, true), 0);
            Check.due("its rules at its last cell", race.isBanned(0, 1) && race.isBanned(0, 2), true);
            // then with the cells 2, 4 and 3, 4 shut up
            if (again == 0) {
                race.build(1, 3, true);
                race.build(3, 3, true);
                race.build(2, 3, false);
            }
        }
        Check.due("from elsewhere", race.distanceFrom(0, 2, 3), 4);
    }

    // ---- numbers of ways

    /** "The number of shortest ways is told modulo 1000003"; with bans: "modulo 1000003, too". */
    private static void numbersByModulus() {
        PawnRace race = Check.read(MANY_WAYS);
        Model model = ModelReader.race(MANY_WAYS);
        BigInteger number = model.waysWithBans(0, 37)[37];
        Check.due("shortest ways in all", number.intValueExact(), 1133352);
        Check.due("distance", race.distance(0), 37);
        Check.due("ways", race.ways(0), 1133352 - 1000003);
        Check.due("waysWithBans", race.waysWithBans(0, 37), 1133352 - 1000003);
        Check.due("onWays", race.onWays(0), model.onWays(0));
        Check.due("gates", race.gates(0), model.gates(0));
    }

    /** A number of ways that is a multiple of 1000003 is told as 0, but there are ways. */
    private static void numberOfNoneByModulus() {
        String text = "board 8 6;pawn a 5 1 north;ban a north every 3 at 0;ban a north every 5 at 1;"
            + "ban a north every 3 at 2;ban a north every 2 at 0;ban a north every 5 at 2;ban a north from 6 0 to 5 4;";
        BigInteger[] numbers = ModelReader.race(text).waysWithBans(0, 50);
        for (int n = 0; n < 44; n++) {
            Check.due("ways of " + n + " steps", numbers[n].signum(), 0);
        }
        Check.due("ways of 44 steps", numbers[44].longValueExact(), 34100L * 1000003);
        PawnRace race = Check.read(text);
        Check.due("waysWithBans 44", race.waysWithBans(0, 44), 0);
        Check.due("stepsWithBans", race.stepsWithBans(0), 44);
        Check.due("detour", race.detour(0), 40);
        Check.due("waysWithBans 50", race.waysWithBans(0, 50),
            numbers[50].mod(BigInteger.valueOf(1000003)).intValueExact());
    }

    /** "the number of cells that lie on some shortest way of a pawn (its own cell and the last one, too)" */
    private static void cellsOnWays() {
        Check.due("its own and the last one", Check.read("pawn a 2 3 north;").onWays(0), 2);
        Check.due("one column", Check.read("board 9 9;pawn a 4 0 north;").onWays(0), 9);
        // it may leave its column at each of three cells; cells beside these that lead nowhere nearer are none
        PawnRace race = Check.read("pawn a 2 0 north;block 2 2 level;");
        Check.due("ways", race.ways(0), 3);
        Check.due("three cells of its column, and five of the next one", race.onWays(0), 8);
        race = Check.read("pawn a 2 0 north;pawn b 2 1 north;pawn c 1 2 north;block 2 2 level;");
        Check.due("pawns do not matter", race.onWays(0), 8);
        race = Check.read("pawn a 2 0 north;block 1 2 level;block 3 2 level;");
        Check.due("two steps west and two north in any order", race.onWays(0), 11);
    }

    /** A step between two cells of shortest ways that a wall blocks is on none of them. */
    private static void stepsThatWallsBlock() {
        // to the cell 0, 2 and north: two steps west and two north, in any order
        String text = "pawn a 2 0 north;block 1 2 level;block 3 2 level;";
        Check.due("ways", Check.read(text).ways(0), 6);
        // not from the column 1 to the column 0 but at the row 2
        PawnRace race = Check.read(text + "block 0 0 upright;");
        Check.due("distance", race.distance(0), 6);
        Check.due("ways", race.ways(0), 3);
        Check.due("onWays", race.onWays(0), 9);
        // nor from the column 2 to the column 1 but at the row 0, nor from the row 0 to the row 1 in the column 2
        race = Check.read(text + "block 1 1 upright;");
        Check.due("distance", race.distance(0), 6);
        Check.due("ways", race.ways(0), 3);
        Check.due("onWays", race.onWays(0), 9);
        race = Check.read(text + "block 1 0 level;");
        Check.due("ways", race.ways(0), 1);
        Check.due("onWays", race.onWays(0), 7);
    }

    /**
     * "A cell is a gate .. if it is not the cell of the pawn, and the pawn has no way that does not pass it (the last
     * ..)"
     */
    private static void gates() {
        // the cell 0, 2 is the only one of the north side that is open, and the cell 0, 1 leads to it
        PawnRace race = Check.read("board 3 3;pawn a 0 1 north;pawn b 2 0 north;pawn c 0 0 north;block 1 1 level;");
        boolean[][] due = {{false, false, true}, {true, false, true}, {true, false, true}};
        for (int pawn = 0; pawn < 3; pawn++) {
            for (int cell = 0; cell < 9; cell++) {
                boolean gate = cell == 3 ? due[pawn][0] : cell == 6 && due[pawn][2];
                Check.due("isGate " + pawn + " " + cell, race.isGate(pawn, cell % 3, cell / 3), gate);
            }
            Check.due("gates of " + pawn, race.gates(pawn), pawn == 0 ? 1 : 2);
        }
        // any way counts, not the shortest one alone; and cells with no way to them are none
        PawnRace longer = Check.read("pawn a 0 0 north;");
        Check.due("ways", longer.ways(0), 1);
        Check.due("gates", longer.gates(0), 0);
        PawnRace shut = Check.read(CORNER + "pawn a 2 0 north;");
        Check.due("gates", shut.gates(0), 0);
        Check.due("isGate", shut.isGate(0, 0, 0), false);
        // with both ends of the board in one tunnel, the way out is by one cell: its cells are gates on that side alone
        PawnRace tunnel = Check.read("board 5 3;pawn a 2 1 south;block 0 0 level;block 2 0 level;");
        Check.due("gates", tunnel.gates(0), 2);
        Check.due("isGate", tunnel.isGate(0, 4, 1), true);
        Check.due("isGate of the last cell", tunnel.isGate(0, 4, 0), true);
        Check.due("isGate", tunnel.isGate(0, 3, 1), false);
    }

    /** The last cell of all ways is each corner of the board in turn, and the one next to it is a gate, too. */
    private static void gatesInCorners() {
        for (int size = 3; size <= 9; size += 2) {
            int far = size - 1;
            int[] places = {0, size - 2};
            for (int corner = 0; corner < 4; corner++) {
                // rows of walls ahead of the side leave one cell open: the corner
                boolean east = corner % 2 == 1;
                boolean north = corner / 2 == 1;
                StringBuilder text = new StringBuilder("board " + size + " " + size + ";pawn a 1 1 "
                    + (north ? "north" : "south") + ";");
                for (int x = east ? 0 : 1; x < far; x += 2) {
                    text.append("block ").append(x).append(' ').append(places[north ? 1 : 0]).append(" level;");
                }
                PawnRace race = Check.read(text.toString());
                int cornerX = east ? far : 0;
                Check.due("the corner", race.isGate(0, cornerX, north ? far : 0), true);
                Check.due("next to it", race.isGate(0, cornerX, north ? far - 1 : 1), true);
                Check.due("the other corner", race.isGate(0, far - cornerX, north ? far : 0), false);
                Check.due("gates", race.gates(0), 2);
                Check.due("regions", race.regions(), 1);
            }
        }
    }

    /** "until it comes to its side for the first time", "no pawn being in its way" */
    private static void forTheFirstTime() {
        PawnRace race = Check.read("board 3 3;pawn a 1 1 north;pawn b 0 0 north;");
        // one step north; or first one aside and then north; never along the side itself
        int[] due = {0, 1, 2, 3, 10};
        for (int n = 0; n < due.length; n++) {
            Check.due("waysWithBans " + n, race.waysWithBans(0, n), due[n]);
        }
        PawnRace full = Check.read("board 3 3;pawn a 1 0 north;pawn b 1 1 east;pawn c 1 2 south;pawn d 0 0 north;");
        Check.due("a cannot go north", full.canStep(0, 0), false);
        Check.due("stepsWithBans", full.stepsWithBans(0), 2);
        Check.due("waysWithBans", full.waysWithBans(0, 2), 1);
        // a jump is no way: it would be one step less
        PawnRace jump = Check.read("board 3 4;pawn a 1 0 north;pawn b 1 1 east;");
        Check.due("stepsWithBans", jump.stepsWithBans(0), 3);
        Check.due("waysWithBans", jump.waysWithBans(0, 2), 0);
    }

    /** "the steps that a pawn makes from now on by its rules": its latest step and the number of its steps count. */
    private static void fromNowOn() {
        PawnRace race = Check.read("board 5 9;pawn a 2 0 north;pawn b 0 8 south;ban a again;ban a north every 3 at 2;");
        int[] steps = {0, 1, 3, 0};
        for (int made = 0; made < 4; made++) {
            Model model = ModelReader.race("board 5 9;pawn a 2 0 north;pawn b 0 8 south;ban a again;"
                + "ban a north every 3 at 2;");
            for (int i = 0; i < made; i++) {
                model.step(steps[i]);
                model.step(i % 2 == 0 ? 1 : 3);
            }
            BigInteger[] due = model.waysWithBans(0, 30);
            int least = 0;
            while (due[least].signum() == 0) {
                least++;
            }
            Check.due("stepsWithBans", race.stepsWithBans(0), least);
            for (int n = 0; n <= 30; n += 3) {
                Check.due("waysWithBans " + n, race.waysWithBans(0, n),
                    due[n].mod(BigInteger.valueOf(1000003)).intValueExact());
            }
            race.step(steps[made]);
            race.step(made % 2 == 0 ? 1 : 3);
        }
        // a jump is one step of the number, and its direction is the latest one
        PawnRace jumped = Check.read("board 3 9;pawn a 1 0 north;pawn b 1 1 east;ban a north every 2 at 1;ban a back;");
        jumped.step(0);
        Check.due("y", jumped.pawn(0, 1), 2);
        // from the row 2 it goes north each second step, beginning with the second one: aside, north, aside, ..
        Check.due("stepsWithBans", jumped.stepsWithBans(0), 12);
    }

    /** "by its rules": by those of the pawn that is asked for, in any order of asking. */
    private static void rulesOfEach() {
        PawnRace race = Check.read("pawn a 2 0 north;pawn b 1 0 north;pawn c 3 0 north;pawn d 0 0 north;"
            + "ban a north from 0 0 to 4 4;ban c north every 2 at 0;ban d again;");
        int[] due = {NONE, 4, 8, 7};
        for (int i = 0; i < 8; i++) {
            int pawn = i * 3 % 4;
            Check.due("stepsWithBans of " + pawn, race.stepsWithBans(pawn), due[pawn]);
            Check.due("waysWithBans of " + pawn, race.waysWithBans(pawn, 4), pawn == 1 ? 1 : 0);
        }
    }

    /**
     * waysWithBans(): "n is out of range" of 0 to 200; stepsWithBans(): "at most 200", "NONE if there is no such
     * number"
     */
    private static void numbersOfSteps() {
        PawnRace race = Check.read("pawn a 2 3 north;");
        for (int n : new int[] {Integer.MIN_VALUE, -1, 201, Integer.MAX_VALUE}) {
            Check.illegalArgument("waysWithBans " + n, () -> race.waysWithBans(0, n));
            Check.outOfBounds("waysWithBans " + n, () -> race.waysWithBans(1, n));
        }
        Check.due("waysWithBans 0", race.waysWithBans(0, 0), 0);
        Check.due("waysWithBans 200", Check.outcome(() -> race.waysWithBans(0, 200)).startsWith("throws"), false);
        Check.due("stepsWithBans", race.stepsWithBans(0), 1);
        PawnRace never = Check.read(TO_AND_FRO);
        for (int pawn = 0; pawn < 2; pawn++) {
            Check.due("stepsWithBans", never.stepsWithBans(pawn), NONE);
            Check.due("detour", never.detour(pawn), NONE);
            Check.due("waysWithBans 200", never.waysWithBans(pawn, 200), 0);
            Check.due("distance", never.distance(pawn), 4);
        }
        PawnRace stuck = Check.read("pawn a 0 0 north;ban a north every 2 at 0;ban a east every 2 at 0;");
        Check.due("no step at all", stuck.stepsWithBans(0), NONE);
        Check.due("no step at all", stuck.waysWithBans(0, 1), 0);
    }

    /** detour(): "stepsWithBans() less distance(); NONE if stepsWithBans() is NONE" */
    private static void detours() {
        Check.due("none", Check.read("pawn a 2 0 north;").detour(0), 0);
        Check.due("by bans", Check.read("pawn a 2 0 north;ban a north every 2 at 0;").detour(0), 4);
        Check.due("by bans and walls",
            Check.read("pawn a 2 0 north;block 2 0 level;ban a west from 2 0 to 2 0;").detour(0), 1);
        Check.due("walls are in the distance", Check.read("pawn a 2 0 north;block 2 0 level;").detour(0), 0);
    }

    /**
     * leader(): "the pawn that has not finished with the least distance, the lowest one of several; NONE if all have"
     */
    private static void leaders() {
        Check.due("nobody", new PawnRace().leader(), NONE);
        Check.due("one alone", Check.read("pawn a 0 0 north;").leader(), 0);
        PawnRace race = Check.read("pawn a 0 2 north;pawn b 1 3 north;pawn c 2 3 north;pawn d 3 0 north;");
        Check.due("the lowest one of two", race.leader(), 1);
        race.build(3, 1, true);
        race.step(0);
        Check.due("b has finished", race.leader(), 2);
        race.step(0);
        Check.due("b and c have", race.leader(), 0);
        race.step(1);
        race.step(0);
        race.build(3, 3, true);
        race.step(0);
        Check.due("the last one", race.leader(), 3);
        Check.due("the race is over", race.isOver(), true);
    }

    // ---- advice

    /**
     * "of the directions in which it can step now, the one behind which its distance is least, of several the lowest
     * one"
     */
    private static void adviceOfSeveral() {
        int[] due = {0, 1, 2, 3};
        for (int side = 0; side < 4; side++) {
            PawnRace race = Check.read("board 7 7;pawn a 3 3 " + SIDES[side] + ";pawn b 0 0 north;");
            Check.due("toward " + SIDES[side], race.advised(0), due[side]);
            // without it: the two directions aside are equal, the one back is worse
            String ban = "ban a " + SIDES[side] + " from 3 3 to 3 3;";
            race = Check.read("board 7 7;pawn a 3 3 " + SIDES[side] + ";pawn b 0 0 north;" + ban);
            Check.due("aside", race.advised(0), side % 2 == 0 ? 1 : 0);
            String other = "ban a " + SIDES[side % 2 == 0 ? 1 : 0] + " from 3 3 to 3 3;";
            race = Check.read("board 7 7;pawn a 3 3 " + SIDES[side] + ";pawn b 0 0 north;" + ban + other);
            Check.due("aside", race.advised(0), side % 2 == 0 ? 3 : 2);
            String last = "ban a " + SIDES[side % 2 == 0 ? 3 : 2] + " from 3 3 to 3 3;";
            race = Check.read("board 7 7;pawn a 3 3 " + SIDES[side] + ";pawn b 0 0 north;" + ban + other + last);
            Check.due("back", race.advised(0), (side + 2) % 4);
        }
        // with a wall ahead the way is shorter by the west; a jump over b goes two cells, round its other end
        String wall = "board 7 4;pawn a 2 0 north;block 2 0 level;pawn b ";
        Check.due("b is elsewhere", Check.read(wall + "6 0 north;").advised(0), 3);
        Check.due("as far by a jump, and lower", Check.read(wall + "3 0 north;").advised(0), 1);
        Check.due("a jump to the west goes too far", Check.read(wall + "1 0 north;").advised(0), 3);
    }

    /** advised(): "NONE if it can make no step" - by its rules, by walls and pawns, at the end of the race. */
    private static void adviceOfNone() {
        PawnRace race = Check.read("pawn a 0 0 north;pawn b 4 4 south;ban a north every 2 at 0;"
            + "ban a east every 2 at 0;");
        Check.due("advised", race.advised(0), NONE);
        Check.due("advised", race.advised(1), 2);
        PawnRace shut = Check.read("board 3 3;pawn a 0 0 north;pawn b 0 1 north;pawn c 0 2 south;block 0 0 upright;");
        Check.due("between a wall and two pawns", shut.advised(0), NONE);
        Check.due("alone", Check.read("pawn a 0 0 north;").advised(0), NONE);
    }

    /**
     * "of several the one with the lowest y, then the lowest x, level ahead of upright"; "100 * its way .. + 10 * y +
     * x".
     * No wall makes a farther than one step, so all admissible ones are equal.
     */
    private static void orderOfWalls() {
        String near = "pawn a 4 3 north;pawn b 0 4 south;block 2 3 level;";
        best(near, 0, 0);
        best(near + "block 0 0 upright;", 1, 0);
        best(near + "block 0 0 level;", 101, 0);
        best(near + "block 0 0 level;block 1 0 upright;", 2, 0);
        best(near + "block 0 0 level;block 1 0 upright;block 2 0 level;", 103, 0);
        best(near + "block 0 0 level;block 1 0 upright;block 2 0 level;block 3 0 upright;", 10, 0);
        best(near + "block 0 0 level;block 1 0 upright;block 2 0 level;block 3 0 upright;block 0 1 level;", 12, 0);
    }

    private static void best(String text, int wall, int gain) {
        PawnRace race = Check.read(text);
        Check.due("bestWall of " + text, race.bestWall(0), wall);
        Check.due("gain of " + text, race.gain(0), gain);
        int harm = race.harm(0, wall % 10, wall / 10 % 10, wall >= 100);
        Check.due("harm of the best wall", harm, gain);
        int[] due = ModelReader.race(text).best(0);
        Check.due("bestWall of the model", 100 * due[2] + 10 * due[1] + due[0], wall);
        Check.due("gain of the model", due[3], gain);
    }

    /** "of all admissible walls, the one behind which the distance of this pawn is greatest" */
    private static void greatestDistance() {
        // all walls over its column make it go one aside; the first one is that over the cells 1 and 2
        best("pawn a 2 0 north;pawn b 2 4 south;", 1, 1);
        // with walls at both ends of it the wall over the cells 3 and 4 makes it go two aside: not as low as others
        best("pawn a 4 0 north;pawn b 4 4 south;block 2 0 upright;", 23, 2);
        // with the first one in order of y there is a wall to its west, so that it goes two to the east
        best("board 9 9;pawn a 2 0 north;pawn b 0 8 south;block 1 0 upright;", 2, 2);
        // those with the greatest distance of all would shut a up
        PawnRace race = Check.read("pawn a 0 0 north;pawn b 4 4 south;block 0 1 level;");
        Check.due("not this one", race.isAdmissible(1, 0, true), false);
        best("pawn a 0 0 north;pawn b 4 4 south;block 0 1 level;", 12, 2);
        // upright ones, against a pawn to the east
        best("pawn a 0 2 east;pawn b 4 2 west;", 110, 1);
        best("pawn a 0 4 east;pawn b 4 4 west;block 0 2 level;", 132, 2);
    }

    /** bestWall(): "NONE if no wall is admissible, or the pawn has finished"; gain(): "NONE if there is none" */
    private static void noWall() {
        PawnRace full = Check.read("board 3 3;pawn a 0 1 north;pawn b 2 1 south;block 0 0 level;block 1 0 upright;"
            + "block 0 1 upright;block 1 1 level;");
        Check.due("admissible", full.admissible(), 0);
        for (int pawn = 0; pawn < 2; pawn++) {
            Check.due("bestWall", full.bestWall(pawn), NONE);
            Check.due("gain", full.gain(pawn), NONE);
        }
        PawnRace none = Check.read("walls 0;pawn a 2 0 north;pawn b 2 4 south;");
        Check.due("nobody has a wall, but there are walls", none.bestWall(0), 1);
        Check.due("the race is over, but there are walls", Check.read("pawn a 2 0 north;").gain(0), 1);
        PawnRace done = Check.read("pawn a 2 3 north;pawn b 2 0 north;pawn c 4 4 south;");
        done.step(0);
        Check.due("a has finished", done.bestWall(0), NONE);
        Check.due("a has finished", done.gain(0), NONE);
        Check.due("b has not", done.bestWall(1), 1);
    }

    /** harm(): "by how much the distance .. would be greater"; "also if there is no such place"; "not admissible" */
    private static void harms() {
        PawnRace race = Check.read("pawn a 2 0 north;pawn b 2 4 south;block 0 1 level;block 3 3 upright;");
        Check.due("one aside", race.harm(0, 2, 3, false), 1);
        Check.due("two aside, by the wall at its west", race.harm(0, 2, 1, false), 2);
        Check.due("of the other pawn", race.harm(1, 2, 1, false), 2);
        Check.due("not in its way", race.harm(0, 3, 0, true), 0);
        Check.illegalState("at its place", () -> race.harm(0, 0, 1, true));
        Check.illegalState("beside", () -> race.harm(0, 1, 1, false));
        Check.illegalState("beside", () -> race.harm(0, 3, 2, true));
        Check.outOfBounds("place", () -> race.harm(0, 4, 0, true));
        Check.outOfBounds("place", () -> race.harm(0, 0, 4, true));
        Check.outOfBounds("place", () -> race.harm(0, -1, 0, true));
        Check.outOfBounds("place", () -> race.harm(0, 0, -1, false));
        Check.outOfBounds("pawn and place", () -> race.harm(2, 9, 9, false));
        Check.due("walls", race.setting(3), 2);
        Check.due("wallAt", race.wallAt(2, 1), NONE);
    }

    // ---- play by itself

    /** foreseen(): "0 or 1", "1 to 99", "fewer if the race is over", "nothing changes" */
    private static void foreseenTurns() {
        PawnRace race = Check.read("pawn a 2 3 north;pawn b 0 0 north;pawn c 4 1 north;");
        String before = Snapshot.of(race);
        for (int mode : new int[] {Integer.MIN_VALUE, -1, 2, Integer.MAX_VALUE}) {
            Check.illegalArgument("mode " + mode, () -> race.foreseen(mode, 1, 0));
            Check.illegalArgument("mode " + mode, () -> race.play(mode, 1));
            Check.outOfBounds("mode " + mode + " and pawn", () -> race.foreseen(mode, 1, 3));
        }
        for (int turns : new int[] {Integer.MIN_VALUE, -1, 0, 100, Integer.MAX_VALUE}) {
            Check.illegalArgument("turns " + turns, () -> race.foreseen(1, turns, 0));
            Check.illegalArgument("turns " + turns, () -> race.play(0, turns));
            Check.outOfBounds("turns " + turns + " and pawn", () -> race.foreseen(1, turns, -1));
        }
        // a at turn 1; then b and c by turns: c comes to its side at turn 7, when it is over
        int[][] due = {{1, 0, 0}, {1, 0, 0}, {1, 0, 0}, {1, 0, 0}, {1, 0, 0}, {1, 0, 0}, {1, 0, 2}};
        for (int turns = 1; turns <= 9; turns++) {
            for (int pawn = 0; pawn < 3; pawn++) {
                int rank = due[Math.min(turns, 7) - 1][pawn];
                Check.due("foreseen " + turns + " " + pawn, race.foreseen(0, turns, pawn), rank);
            }
        }
        Check.due("foreseen 99", race.foreseen(0, 99, 2), 2);
        Check.due("foreseen 99 in mode 1", race.foreseen(1, 99, 0), 1);
        Check.due("nothing changes", Snapshot.of(race), before);
        Check.due("nothing can be undone", race.undo(), NONE);
        Check.due("the same by play", race.play(0, 99), 7);
        Check.due("the race is over", race.foreseen(0, 1, 0), 1);
        Check.due("the race is over", race.foreseen(1, 99, 1), 0);
        Check.due("rank", race.pawn(2, 6), 2);
    }

    /** play(): "until the race is over", "the number of turns that were played", "1 to 99" */
    private static void playedTurns() {
        PawnRace race = Check.read(TO_AND_FRO);
        Check.due("the most", race.play(0, 99), 99);
        Check.due("turns", race.setting(4), 99);
        Check.due("the least", race.play(1, 1), 1);
        Check.due("turns", race.setting(4), 100);
        Check.due("play", race.play(0, 99), 99);
        Check.due("one is left", race.play(0, 99), 1);
        Check.due("turns", race.setting(4), 200);
        Check.due("none is left", race.play(0, 99), 0);
        Check.due("none is left", race.play(1, 1), 0);
        Check.due("turns", race.setting(4), 200);
        PawnRace two = Check.read("pawn a 2 0 north;pawn b 0 4 south;");
        Check.due("until a is at its side", two.play(0, 8), 7);
        Check.due("then no more", two.play(0, 1), 0);
        Check.due("for nobody", new PawnRace().play(0, 99), 0);
        Check.due("for one alone", Check.read("pawn a 2 0 north;").play(1, 99), 0);
        // in mode 0: its advised step; if it can make no step, it passes, also with walls
        PawnRace stuck = Check.read("pawn a 0 0 north;pawn b 2 3 north;pawn c 4 0 north;ban a north every 2 at 0;"
            + "ban a east every 2 at 0;");
        Check.due("play", stuck.play(0, 1), 1);
        Check.due("a passed", stuck.pawn(0, 4), 0);
        Check.due("turnOf", stuck.turnOf(), 1);
        Check.due("play", stuck.play(0, 2), 2);
        Check.due("b finished", stuck.pawn(1, 6), 1);
        Check.due("c stepped", stuck.pawn(2, 1), 1);
        Check.due("walls", stuck.setting(3), 0);
    }

    /**
     * "the least distance of the other pawns that have not finished", "against that one of these (of several the
     * lowest)"
     */
    private static void rivals() {
        // c is nearer than b; the best wall against c is that over the cells 3 and 4 ahead of it
        built("pawn a 0 0 north;pawn b 2 1 north;pawn c 4 2 north;", 0, 1, 23);
        // b and c are equally near
        built("pawn a 0 0 north;pawn b 2 2 north;pawn c 4 2 north;", 0, 1, 21);
        built("pawn a 0 0 north;pawn b 4 2 north;pawn c 2 2 north;", 0, 1, 23);
        // a is nearer than b and c, so b builds against it
        built("pawn a 0 1 north;pawn b 4 0 north;pawn c 2 0 north;", 1, 1, 20);
        // a has finished, so it is no rival: b builds against c
        built("pawn a 0 3 north;pawn b 2 0 north;pawn c 4 2 north;", 1, 1, 23);
        // and b, as near as c, builds not at all
        built("pawn a 0 3 north;pawn b 2 2 north;pawn c 4 2 north;", 1, 0, NONE);
    }

    /** Plays turns of mode 0 and then one of mode 1, in which so many walls are built: the one that is told. */
    private static void built(String text, int ahead, int walls, int wall) {
        PawnRace race = Check.read(text);
        if (ahead > 0) {
            race.play(0, ahead);
        }
        int mover = race.turnOf();
        Check.due("play", race.play(1, 1), 1);
        Check.due("walls of " + text, race.setting(3), walls);
        Check.due("walls of the builder", race.pawn(mover, 3), 5 - walls);
        Check.due("steps of the builder", race.pawn(mover, 4), 1 - walls);
        if (walls > 0) {
            Check.due("wall of " + text, race.wallAt(wall % 10, wall / 10 % 10), wall / 100);
        }
    }

    /** "if it has a wall", "is less than its own", "if this has a gain of 1 or more; otherwise it does as in mode 0" */
    private static void otherwiseAStep() {
        stepped("no wall", "pawn a 0 0 north walls 0;pawn b 2 1 north;", 0);
        stepped("as near", "pawn a 0 1 north;pawn b 2 1 north;", 0);
        stepped("nearer", "pawn a 0 2 north;pawn b 2 1 north;", 0);
        stepped("a gain of 0", "pawn a 0 0 north;pawn b 4 3 north;block 2 3 level;", 1);
        stepped("no admissible wall", "board 3 3;pawn a 1 2 south;pawn b 1 1 north;block 0 0 level;block 1 0 upright;"
            + "block 0 1 upright;", 3);
        PawnRace one = Check.read("pawn a 0 0 north walls 1;pawn b 2 1 north walls 0;");
        Check.due("gain", one.gain(1), 1);
        one.play(1, 1);
        Check.due("a gain of 1 and the last wall", one.setting(3), 1);
        Check.due("walls left", one.pawn(0, 3), 0);
        one.play(1, 2);
        Check.due("without one a steps", one.pawn(0, 4), 1);
        PawnRace passes = Check.read("pawn a 0 0 north walls 0;pawn b 2 1 north;ban a north every 2 at 0;"
            + "ban a east every 2 at 0;");
        passes.play(1, 1);
        Check.due("no step, a passed", passes.pawn(0, 4), 0);
        Check.due("turnOf", passes.turnOf(), 1);
        PawnRace builds = Check.read("pawn a 0 0 north;pawn b 2 1 north;ban a north every 2 at 0;"
            + "ban a east every 2 at 0;");
        builds.play(1, 1);
        Check.due("no step, but a wall", builds.setting(3), 1);
    }

    private static void stepped(String what, String text, int walls) {
        PawnRace race = Check.read(text);
        int advised = race.advised(0);
        Check.due(what + ", play", race.play(1, 1), 1);
        Check.due(what + ", walls", race.setting(3), walls);
        Check.due(what + ", steps", race.pawn(0, 4), 1);
        Check.due(what + ", the advised one", race.pawn(0, 5), advised);
    }
}
