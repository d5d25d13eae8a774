/**
 * Each sentence of the document's section 8, of promises 1 and 41 to 45, and of "If several exceptions apply .." that
 * names an edge: the sentence stands above its test.
 */
public final class KeepEdgeTest {
    private static final int NONE = PawnRace.NONE;
    private static final String FOUR = "board 3 3;pawn a 0 0 north;pawn b 0 1 east walls 2;pawn c 1 0 north;"
        + "pawn d 2 0 north;ban a north every 2 at 0;ban d back;";
    private static final String SCRIPT = "step east;wall 0 1 level;step west;play 0 2;pass;";
    /** The calls that played() makes of FOUR. */
    private static final int MOVES = 8;

    private KeepEdgeTest() {
    }

    public static void main(String[] args) {
        asAnEmptyText();
        latestSix();
        eachKindOfCall();
        noneToUndo();
        thrownIsNotKept();
        forgotten();
        undoneAndPlayedOn();
        savedRace();
        nothingSaved();
        reportBytes();
        reportRows();
        reportWalls();
        latestReport();
        listedFirst();
        thrownChangesNothing();
        askedChangesNothing();
        Check.end();
    }

    /** "Creates a race as if an empty text was read, with an empty buffer." */
    private static void asAnEmptyText() {
        PawnRace made = new PawnRace();
        PawnRace read = Check.read("");
        Check.due("the race", Snapshot.of(made), Snapshot.of(read));
        Check.due("the report", Check.report(made), Check.report(read));
        Check.due("its bytes", made.report(), 31);
        for (int n : new int[] {1, 20, 700}) {
            Check.illegalArgument("an empty buffer", () -> made.truncate(n));
        }
        Check.due("errorCode", made.errorCode(), 0);
        Check.due("errorPosition", made.errorPosition(), NONE);
        Check.due("regions", made.regions(), 1);
        Check.due("admissible", made.admissible(), 32);
        Check.due("readText", made.readText(), 0);
        Check.due("feed", made.feed(0, 0, 0, 0, 0), 20);
    }

    // ---- undo

    /** A race in which the first ones of eight calls were made: each kind of call that can be undone is among them. */
    private static PawnRace played(int calls) {
        PawnRace race = Check.read(FOUR);
        for (int call = 0; call < calls; call++) {
            make(race, call);
        }
        return race;
    }

    private static void make(PawnRace race, int call) {
        switch (call) {
            case 0 -> Check.due("a passes", race.pass(), 1);
            case 1 -> Check.due("b steps", race.step(1), 1);
            case 2 -> Check.due("c builds", race.build(1, 1, true), 4);
            case 3 -> Check.due("d plays", race.play(0, 1), 1);
            case 4 -> Check.due("a script", Check.run(race, SCRIPT), 4);
            case 5 -> Check.due("a script that does nothing", Check.run(race, "play 2 1;pass;"), 0);
            case 6 -> Check.due("play", race.play(1, 2), 2);
            default -> Check.due("an empty script", Check.run(race, ""), 0);
        }
    }

    /** "the latest first; the latest 6 of them are kept. All of the race is as before it then." */
    private static void latestSix() {
        for (int made = 0; made <= MOVES; made++) {
            int kept = Math.min(made, 6);
            for (int undone = 0; undone <= kept; undone++) {
                PawnRace race = played(made);
                for (int i = 1; i <= undone; i++) {
                    Check.due("undo " + i + " of " + made, race.undo(), kept - i);
                }
                Check.due("as before", Snapshot.of(race), Snapshot.of(played(made - undone)));
                if (undone == kept) {
                    Check.due("no more", race.undo(), NONE);
                    Check.due("nothing changes", Snapshot.of(race), Snapshot.of(played(made - undone)));
                }
            }
        }
    }

    /** "Each call of step(), build(), pass(), play() and runScript() (as a whole, also if no command was done)" */
    private static void eachKindOfCall() {
        for (int call = 0; call < MOVES; call++) {
            PawnRace race = played(call);
            race.save();
            race.restore();
            Check.due("nothing to undo", race.undo(), NONE);
            String before = Snapshot.of(race);
            make(race, call);
            Check.due("undo of call " + call, race.undo(), 0);
            Check.due("as before", Snapshot.of(race), before);
            Check.due("no more", race.undo(), NONE);
        }
        // a play of no turns can be undone, too
        PawnRace over = new PawnRace();
        Check.due("play", over.play(0, 1), 0);
        Check.due("undo", over.undo(), 0);
        Check.due("undo", over.undo(), NONE);
        // the end of the race is taken back, with the rank
        PawnRace end = Check.read("pawn a 0 3 north;pawn b 4 4 south;");
        String before = Snapshot.of(end);
        end.step(0);
        Check.due("isOver", end.isOver(), true);
        Check.due("undo", end.undo(), 0);
        Check.due("as before", Snapshot.of(end), before);
        Check.due("ranked", end.ranked(1), NONE);
        Check.due("pawnAt", end.pawnAt(0, 3), 0);
        Check.due("steps", end.steps(0), 7);
    }

    /** undo(): "NONE, and nothing changes, if there is none" */
    private static void noneToUndo() {
        PawnRace race = new PawnRace();
        Check.due("undo", race.undo(), NONE);
        Check.due("undo", race.undo(), NONE);
        Check.fill(race, "pawn a 0 0 north;pawn b 1 0 north;");
        race.readText();
        String before = Snapshot.of(race);
        Check.due("undo", race.undo(), NONE);
        Check.due("nothing changes", Snapshot.of(race), before);
        race.step(0);
        Check.due("undo", race.undo(), 0);
        Check.due("undo", race.undo(), NONE);
        race.step(0);
        race.step(0);
        Check.due("none of them counts", race.undo(), 1);
    }

    /** "that was done without an exception": the others are not kept, and push nothing out. */
    private static void thrownIsNotKept() {
        PawnRace race = Check.read("board 3 9;pawn a 0 0 north;pawn b 2 8 south;");
        for (int i = 0; i < 7; i++) {
            race.step(i % 2 == 0 ? 0 : 2);
            Check.illegalArgument("step", () -> race.step(4));
            Check.illegalState("step", () -> race.step(race.turnOf() == 0 ? 3 : 1));
            Check.outOfBounds("build", () -> race.build(2, 0, true));
            Check.illegalState("pass", race::pass);
            Check.illegalArgument("play", () -> race.play(0, 0));
            Check.fill(race, "step north;step");
            Check.illegalArgument("runScript", race::runScript);
        }
        for (int left = 5; left >= 0; left--) {
            Check.due("undo", race.undo(), left);
            Check.due("turns", race.setting(4), left + 1);
        }
        Check.due("undo", race.undo(), NONE);
        Check.due("turns", race.setting(4), 1);
    }

    /** "readText() and restore() forget them": if they throw no exception. */
    private static void forgotten() {
        PawnRace race = Check.read("pawn a 0 0 north;pawn b 4 4 south;");
        race.step(0);
        race.step(2);
        Check.illegalState("nothing was saved", race::restore);
        Check.fill(race, "pawn");
        Check.illegalArgument("readText", race::readText);
        Check.due("not forgotten", race.undo(), 1);
        race.save();
        Check.due("saving forgets none", race.undo(), 0);
        race.step(0);
        race.step(2);
        Check.due("restore", race.restore(), 1);
        Check.due("forgotten", race.undo(), NONE);
        Check.due("turns", race.setting(4), 1);
        race.step(2);
        Check.due("readText", race.readText(), 0);
        Check.due("forgotten", race.undo(), NONE);
        Check.due("pawns", race.setting(2), 0);
    }

    /** What is done behind an undo takes the place of what was undone. */
    private static void undoneAndPlayedOn() {
        PawnRace race = Check.read("board 3 9;pawn a 0 0 north;pawn b 2 8 south;");
        for (int i = 0; i < 20; i++) {
            race.step(race.turnOf() == 0 ? 0 : 2);
            race.step(race.turnOf() == 0 ? 0 : 2);
            Check.due("undo", race.undo(), Math.min(i + 1, 5));
            Check.due("turns", race.setting(4), i + 1);
            if (i == 12) {
                for (int left = Math.min(i + 1, 5) - 1; left >= 0; left--) {
                    Check.due("undo", race.undo(), left);
                }
                Check.due("undo", race.undo(), NONE);
                Check.due("turns", race.setting(4), 8);
                return;
            }
        }
    }

    // ---- the saved race

    /** "Saves the race with all pawns, bans, walls and turns, in place of an earlier one"; "which stays" */
    private static void savedRace() {
        String[] others = {"", "board 9 9;pawn x 8 8 south walls 20;ban x again;block 7 7 level;", "pawn x 4 4 west;"};
        for (int calls = 0; calls <= MOVES; calls += 2) {
            PawnRace race = played(calls);
            int turns = race.setting(4);
            Check.due("save", race.save(), turns);
            Check.fill(race, others[calls % 3]);
            race.readText();
            Check.due("restore", race.restore(), turns);
            Check.due("all is restored", Snapshot.of(race), Snapshot.of(played(calls)));
            race.play(0, 2);
            race.undo();
            race.play(0, 1);
            Check.due("restore, it stays", race.restore(), turns);
            Check.due("all is restored", Snapshot.of(race), Snapshot.of(played(calls)));
        }
        PawnRace race = Check.read("pawn a 0 0 north;pawn b 4 4 south;");
        Check.due("save", race.save(), 0);
        race.step(0);
        Check.due("in place of the earlier one", race.save(), 1);
        race.step(2);
        Check.due("restore", race.restore(), 1);
        Check.due("turns", race.setting(4), 1);
        race.step(2);
        race.undo();
        Check.due("restore behind an undo", race.restore(), 1);
        Check.fill(race, "pawn a");
        Check.illegalArgument("readText", race::readText);
        Check.due("the saved race stays", race.restore(), 1);
    }

    /** "if nothing was saved" */
    private static void nothingSaved() {
        PawnRace race = new PawnRace();
        Check.illegalState("restore", race::restore);
        Check.fill(race, "pawn a 0 0 north;pawn b 4 4 south;");
        race.readText();
        race.step(0);
        String before = Snapshot.of(race);
        Check.illegalState("restore", race::restore);
        Check.due("nothing changes", Snapshot.of(race), before);
        Check.due("save", race.save(), 1);
        Check.due("restore", race.restore(), 1);
        PawnRace empty = new PawnRace();
        Check.due("an empty race is saved", empty.save(), 0);
        Check.due("and restored", empty.restore(), 0);
    }

    // ---- reports

    /** reportByte(): "if there is no such byte, or there was no report" */
    private static void reportBytes() {
        PawnRace race = Check.read("board 3 3;");
        for (int i : new int[] {Integer.MIN_VALUE, -1, 0, 1, Integer.MAX_VALUE}) {
            Check.outOfBounds("there was no report", () -> race.reportByte(i));
        }
        Check.due("report", race.report(), 13);
        for (int i : new int[] {Integer.MIN_VALUE, -1, 13, 14, Integer.MAX_VALUE}) {
            Check.outOfBounds("no byte " + i, () -> race.reportByte(i));
        }
        String due = "...\n...\n...\n\n";
        for (int i = 0; i < 13; i++) {
            Check.due("byte " + i, race.reportByte(i), due.charAt(i));
        }
    }

    /** "for each row of cells, the greatest y first, for each of its cells the digit of the pawn there, or a point" */
    private static void reportRows() {
        PawnRace race = Check.read("board 4 3;pawn a 0 0 north;pawn b 3 2 south;pawn c 0 1 east;pawn d 2 1 north;");
        Check.due("report", Check.report(race), "...1\n2.3.\n0...\n\n");
        race.step(1);
        race.step(2);
        race.step(0);
        Check.due("report", Check.report(race), "2...\n..31\n.0..\n\n");
        race.step(0);
        Check.due("one that has finished is on no cell", Check.report(race), "2...\n...1\n.0..\n\n");
        Check.due("the smallest board", Check.read("board 3 3;").report(), 13);
        Check.due("the greatest one", Check.read("board 9 9;").report(), 91);
        Check.due("a broad one", Check.read("board 9 3;").report(), 31);
        Check.due("a high one", Check.read("board 3 9;").report(), 37);
    }

    /** "for each wall, by ascending y, then by ascending x, "-" .. or "|" .., the digit of x and the digit of y" */
    private static void reportWalls() {
        PawnRace race = Check.read("board 9 9;block 7 7 level;block 0 7 upright;block 7 0 upright;block 0 0 level;"
            + "block 3 5 level;block 5 3 upright;block 2 3 level;");
        Check.due("walls", Check.report(race).substring(90), "-00|70-23|53-35|07-77\n");
        Check.due("bytes", race.report(), 90 + 21 + 1);
        PawnRace one = Check.read("board 3 4;pawn a 0 0 north;pawn b 2 3 south;");
        one.build(1, 2, true);
        Check.due("one that was built", Check.report(one), "..1\n...\n...\n0..\n|12\n");
        one.undo();
        Check.due("and undone", Check.report(one), "..1\n...\n...\n0..\n\n");
    }

    /** "in place of the one before"; "this byte of the latest report": what happens behind it does not matter. */
    private static void latestReport() {
        PawnRace race = Check.read("board 3 4;pawn a 0 0 north;pawn b 2 3 south;block 0 0 level;");
        Check.due("bytes", race.report(), 20);
        race.step(1);
        race.build(1, 1, true);
        race.undo();
        race.save();
        race.restore();
        Check.fill(race, "board 9 9;");
        race.readText();
        race.save();
        String due = "..1\n...\n...\n0..\n-00\n";
        for (int i = 0; i < due.length(); i++) {
            Check.due("byte " + i, race.reportByte(i), due.charAt(i));
        }
        Check.outOfBounds("byte 20", () -> race.reportByte(20));
        Check.due("a longer one", race.report(), 91);
        Check.due("byte 90", race.reportByte(90), '\n');
        Check.fill(race, "board 3 3;");
        race.readText();
        Check.due("a shorter one", race.report(), 13);
        Check.outOfBounds("nothing is left of the longer one", () -> race.reportByte(13));
    }

    // ---- exceptions

    /** "If several exceptions apply to a call, the one that is listed first is thrown." */
    private static void listedFirst() {
        PawnRace over = new PawnRace();
        PawnRace race = Check.read("pawn a 0 0 north walls 0;pawn b 4 4 south;");
        for (PawnRace each : new PawnRace[] {over, race}) {
            Check.outOfBounds("pawn", () -> each.pawn(2, 8));
            Check.outOfBounds("isBlocked", () -> each.isBlocked(5, 0, 4) ? 1 : 0);
            Check.outOfBounds("canStep", () -> each.canStep(2, 4) ? 1 : 0);
            Check.outOfBounds("isBanned", () -> each.isBanned(-1, -1) ? 1 : 0);
            Check.outOfBounds("waysWithBans", () -> each.waysWithBans(2, 201));
            Check.outOfBounds("foreseen", () -> each.foreseen(2, 0, 2));
            Check.outOfBounds("harm", () -> each.harm(2, 4, 4, true));
            Check.outOfBounds("build", () -> each.build(4, 0, true));
            Check.illegalArgument("step", () -> each.step(4));
        }
        race.step(0);
        race.build(0, 0, true);
        Check.outOfBounds("the pawn ahead of the wall", () -> race.harm(2, 0, 0, true));
        Check.outOfBounds("no wall, no such place", () -> race.build(0, 4, true));
    }

    /** "A call that throws an exception changes nothing, unless something else is said." */
    private static void thrownChangesNothing() {
        PawnRace race = Check.read("pawn a 0 0 north;pawn b 4 4 south;ban a back;block 1 1 level;");
        race.step(1);
        race.report();
        race.feed(0x20202020, 0x20202020, 0x20202020, 0x20202020, 0x2020203f);
        String before = Snapshot.of(race);
        Check.Call[] calls = {() -> race.truncate(21), () -> race.truncate(-1), () -> race.setting(7),
            () -> race.pawn(0, 8), () -> race.pawn(2, 0), () -> race.pawnAt(5, 0), () -> race.wallAt(4, 0),
            () -> race.isBlocked(0, 0, 4) ? 1 : 0, () -> race.isAdmissible(0, 4, true) ? 1 : 0,
            () -> race.canStep(0, 4) ? 1 : 0, () -> race.isBanned(2, 0) ? 1 : 0, () -> race.steps(2),
            () -> race.distance(2), () -> race.distanceFrom(0, 5, 0), () -> race.ways(-1), () -> race.onWays(2),
            () -> race.gates(2), () -> race.isGate(0, 0, 5) ? 1 : 0, () -> race.stepsWithBans(2),
            () -> race.waysWithBans(0, 201), () -> race.detour(2), () -> race.advised(2), () -> race.bestWall(2),
            () -> race.gain(2), () -> race.harm(0, 1, 1, false), () -> race.harm(0, 2, 1, false),
            () -> race.foreseen(0, 100, 0), () -> race.step(4), () -> race.step(0), () -> race.step(1),
            () -> race.build(4, 0, true), () -> race.build(1, 1, true), () -> race.build(2, 1, false), race::pass,
            () -> race.play(0, 100), () -> race.play(2, 1), () -> race.reportByte(34), race::restore};
        for (int i = 0; i < calls.length; i++) {
            Check.due("call " + i + " throws", Check.outcome(calls[i]).startsWith("throws"), true);
        }
        Check.due("nothing changes", Snapshot.of(race), before);
        Check.due("the report stays", race.reportByte(33), '\n');
        Check.due("the report stays", race.reportByte(25), '0');
        Check.due("the error stays", race.errorCode(), 0);
        Check.due("the step alone can be undone", race.undo(), 0);
        Check.illegalArgument("the buffer stays", () -> race.truncate(21));
        Check.illegalArgument("the buffer stays", race::readText);
        Check.due("errorPosition", race.errorPosition(), 19);
        PawnRace full = new PawnRace();
        Check.fill(full, "walls 3;" + " ".repeat(680) + "walls 4;");
        Check.illegalState("feed", () -> full.feed(-1, -1, -1, -1, -1));
        Check.illegalArgument("readText", full::readText);
        Check.due("errorCode", full.errorCode(), 3);
        Check.due("errorPosition", full.errorPosition(), 688);
    }

    /** Questions change nothing: neither the race nor what can be undone, nor the report, nor the saved race. */
    private static void askedChangesNothing() {
        PawnRace race = Check.read("pawn a 0 0 north;pawn b 4 4 south;pawn c 2 3 north;ban a back;block 1 1 level;");
        race.step(1);
        race.save();
        race.build(3, 0, true);
        race.report();
        String before = Snapshot.of(race);
        for (int pawn = 0; pawn < 3; pawn++) {
            race.distanceFrom(pawn, 3, 3);
            race.ways(pawn);
            race.onWays(pawn);
            race.gates(pawn);
            race.isGate(pawn, 2, 2);
            race.stepsWithBans(pawn);
            race.waysWithBans(pawn, 9);
            race.detour(pawn);
            race.advised(pawn);
            race.bestWall(pawn);
            race.gain(pawn);
            race.harm(pawn, 0, 3, false);
            race.foreseen(0, 99, pawn);
            race.foreseen(1, 99, pawn);
        }
        race.admissible();
        race.regions();
        race.leader();
        race.ranked(1);
        race.isAdmissible(0, 3, true);
        race.isAdmissible(1, 1, true);
        Check.due("nothing changes", Snapshot.of(race), before);
        Check.due("the report stays", race.reportByte(25), '0');
        Check.due("what can be undone", race.undo(), 1);
        Check.due("what can be undone", race.undo(), 0);
        Check.due("what can be undone", race.undo(), NONE);
        Check.due("the saved race", race.restore(), 1);
    }
}
