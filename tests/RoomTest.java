import java.lang.management.ManagementFactory;

/**
 * The room that a run may take: a new object is small, and no call makes an object unless it throws an exception.
 * The dearest calls also have to end soon.
 */
public final class RoomTest {
    private static final String FOUR = "board 9 9;walls 20;pawn a 4 0 north;pawn b 0 4 east;pawn c 4 8 south;"
        + "pawn d 8 4 west;ban a back;ban b again;ban c south every 3 at 1;ban d west from 2 2 to 6 6;ban a again;"
        + "ban a north every 2 at 0;ban b east every 5 at 3;ban c back;ban d again;ban a east from 0 0 to 8 8;"
        + "ban b south every 4 at 1;ban c north from 1 1 to 2 2;";
    /** The bytes that the counting itself may take. */
    private static final long SLACK = 4096;

    private RoomTest() {
    }

    public static void main(String[] args) {
        newObject();
        calls();
        Check.end();
    }

    private static long allocated() {
        com.sun.management.ThreadMXBean bean = (com.sun.management.ThreadMXBean) ManagementFactory.getThreadMXBean();
        return bean.getThreadAllocatedBytes(Thread.currentThread().getId());
    }

    private static void newObject() {
        new PawnRace();
        long before = allocated();
        PawnRace race = new PawnRace();
        long bytes = allocated() - before;
        Check.due("a new object is small, " + bytes + " bytes", bytes < 60000, true);
        Check.due("width", race.setting(0), 5);
    }

    private static void calls() {
        PawnRace race = Check.read(FOUR);
        everyCall(race);
        long before = allocated();
        everyCall(race);
        long bytes = allocated() - before;
        Check.due("no call makes objects, " + bytes + " bytes", bytes < SLACK, true);
        PawnRace dear = Check.read(FOUR);
        long sum = 0;
        before = allocated();
        for (int i = 0; i < 400; i++) {
            sum += dear.foreseen(1, 99, i % 4) + dear.stepsWithBans(i % 4) + dear.waysWithBans(i % 4, 200);
        }
        bytes = allocated() - before;
        Check.due("the dear calls make no objects, " + bytes + " bytes, " + sum, bytes < SLACK, true);
    }

    private static void everyCall(PawnRace race) {
        race.feed(0x706c6179, 0x20302031, 0x3b702020, 0, 0);
        race.truncate(9);
        race.runScript();
        race.undo();
        race.save();
        race.restore();
        for (int p = 0; p < 4; p++) {
            race.pawn(p, 0);
            race.canStep(p, 0);
            race.isBanned(p, 0);
            race.steps(p);
            race.distance(p);
            race.distanceFrom(p, 1, 1);
            race.ways(p);
            race.onWays(p);
            race.gates(p);
            race.isGate(p, 1, 1);
            race.stepsWithBans(p);
            race.waysWithBans(p, 200);
            race.detour(p);
            race.advised(p);
            race.bestWall(p);
            race.gain(p);
            race.harm(p, 0, 0, true);
            race.foreseen(1, 99, p);
        }
        race.setting(0);
        race.turnOf();
        race.isOver();
        race.pawnAt(0, 0);
        race.ranked(1);
        race.wallAt(0, 0);
        race.isBlocked(0, 0, 0);
        race.isAdmissible(0, 0, true);
        race.admissible();
        race.regions();
        race.leader();
        race.step(3);
        race.build(3, 3, true);
        race.play(1, 3);
        race.report();
        race.reportByte(0);
        race.errorCode();
        race.errorPosition();
        while (race.undo() > 0) {
            continue;
        }
    }
}
