import java.util.ArrayList;
import java.util.List;
import java.util.Random;
import java.util.Set;

/** Every call, with numbers far out of all ranges and with texts of any bytes, throws only what the document lists. */
public final class ExtremesTest {
    private static final int[] NUMBERS = {Integer.MIN_VALUE, Integer.MIN_VALUE + 1, -715827882, -2, -1, 0, 1, 2, 3, 4, 5,
        8, 9, 81, 99, 200, 1 << 28, 477218588, Integer.MAX_VALUE - 1, Integer.MAX_VALUE};
    private static final String BOUNDS = "throws IndexOutOfBoundsException";
    private static final String ARGUMENT = "throws IllegalArgumentException";
    private static final String STATE = "throws IllegalStateException";

    private ExtremesTest() {
    }

    public static void main(String[] args) {
        numbers("");
        numbers("board 9 9;pawn a 4 4 north;pawn b 8 8 south;pawn c 0 0 east;pawn d 1 1 west;ban a back;");
        numbers("board 3 3;pawn a 1 1 north;pawn b 1 2 south;");
        bytes();
        Check.end();
    }

    private static void only(String what, Check.Call call, String... allowed) {
        String outcome = Check.outcome(call);
        boolean good = !outcome.startsWith("throws") || Set.of(allowed).contains(outcome);
        Check.due(what + " " + outcome, good, true);
    }

    private static void numbers(String text) {
        for (int a : NUMBERS) {
            PawnRace race = Check.read(text);
            one(race, a);
            for (int b : NUMBERS) {
                two(race, a, b);
                PawnRace other = Check.read(text);
                for (int c : NUMBERS) {
                    three(other, a, b, c);
                }
            }
        }
    }

    private static void one(PawnRace race, int a) {
        only("setting", () -> race.setting(a), ARGUMENT);
        only("ranked", () -> race.ranked(a));
        only("reportByte", () -> race.reportByte(a), BOUNDS);
        only("step", () -> race.step(a), ARGUMENT, STATE);
        only("truncate", () -> race.truncate(a), ARGUMENT);
        List<Check.Call> ofPawn = new ArrayList<>(List.of(() -> race.steps(a), () -> race.distance(a),
            () -> race.ways(a), () -> race.onWays(a), () -> race.gates(a), () -> race.stepsWithBans(a),
            () -> race.detour(a), () -> race.advised(a), () -> race.bestWall(a), () -> race.gain(a)));
        for (Check.Call call : ofPawn) {
            only("a call of a pawn", call, BOUNDS);
        }
    }

    private static void two(PawnRace race, int a, int b) {
        only("pawn", () -> race.pawn(a, b), BOUNDS, ARGUMENT);
        only("canStep", () -> race.canStep(a, b) ? 1 : 0, BOUNDS, ARGUMENT);
        only("isBanned", () -> race.isBanned(a, b) ? 1 : 0, BOUNDS, ARGUMENT);
        only("waysWithBans", () -> race.waysWithBans(a, b), BOUNDS, ARGUMENT);
        only("pawnAt", () -> race.pawnAt(a, b), BOUNDS);
        only("wallAt", () -> race.wallAt(a, b), BOUNDS);
        only("isAdmissible", () -> race.isAdmissible(a, b, a > b) ? 1 : 0, BOUNDS);
        only("build", () -> race.build(a, b, a > b), BOUNDS, STATE);
        only("play", () -> race.play(a, b), ARGUMENT);
    }

    private static void three(PawnRace race, int a, int b, int c) {
        only("isBlocked", () -> race.isBlocked(a, b, c) ? 1 : 0, BOUNDS, ARGUMENT);
        only("distanceFrom", () -> race.distanceFrom(a, b, c), BOUNDS);
        only("isGate", () -> race.isGate(a, b, c) ? 1 : 0, BOUNDS);
        only("harm", () -> race.harm(a, b, c, b > c), BOUNDS, STATE);
        only("foreseen", () -> race.foreseen(a, b, c), BOUNDS, ARGUMENT);
    }

    /** Texts of 700 bytes: any ones, and tokens of the grammar in any order. */
    private static void bytes() {
        String words = "board walls pawn ban block north east level upright back every at from to ; ; ; ( ) 0 1 2 5 99"
            + " a b step wall pass play repeat 9";
        String[] tokens = words.split(" ");
        Random random = new Random(5);
        for (int i = 0; i < 3000; i++) {
            byte[] text = new byte[random.nextInt(701)];
            random.nextBytes(text);
            StringBuilder row = new StringBuilder();
            while (i % 3 != 0 && row.length() < text.length) {
                row.append(tokens[random.nextInt(tokens.length)]).append(random.nextInt(9) == 0 ? "" : " ");
            }
            for (int k = 0; k < text.length && k < row.length(); k++) {
                text[k] = (byte) row.charAt(k);
            }
            PawnRace race = new PawnRace();
            Check.fill(race, text);
            only("readText", race::readText, ARGUMENT);
            errorIsTold(race, text.length);
            Check.fill(race, text);
            only("runScript", race::runScript, ARGUMENT);
            errorIsTold(race, text.length);
        }
        densest();
    }

    private static void errorIsTold(PawnRace race, int length) {
        boolean none = race.errorCode() == 0 && race.errorPosition() == PawnRace.NONE;
        boolean one = race.errorCode() >= 1 && race.errorCode() <= 6 && race.errorPosition() >= 0
            && race.errorPosition() <= length;
        Check.due("an error or none", none || one, true);
    }

    /** As many tokens as there are bytes, and errors at the last byte and behind it. */
    private static void densest() {
        PawnRace race = new PawnRace();
        Check.fill(race, ";".repeat(700));
        only("readText", race::readText, ARGUMENT);
        Check.due("errorPosition", race.errorPosition(), 0);
        Check.fill(race, " ".repeat(699) + "(");
        only("readText", race::readText, ARGUMENT);
        Check.due("errorPosition", race.errorPosition(), 699);
        Check.fill(race, "walls3" + "\n".repeat(694));
        only("readText", race::readText, ARGUMENT);
        Check.due("errorPosition", race.errorPosition(), 700);
        Check.fill(race, "a".repeat(700));
        only("readText", race::readText, ARGUMENT);
        Check.due("errorPosition", race.errorPosition(), 0);
        Check.fill(race, "walls" + "1".repeat(695));
        only("readText", race::readText, ARGUMENT);
        Check.due("errorPosition", race.errorPosition(), 5);
        Check.fill(race, "repeat20(repeat20(););".repeat(31));
        only("runScript", race::runScript, ARGUMENT);
        Check.due("errorCode", race.errorCode(), 6);
        Check.due("errorPosition", race.errorPosition(), 15 * 22);
        Check.fill(race, "repeat20(repeat20(););".repeat(15));
        Check.due("runScript", race.runScript(), 0);
        Check.fill(race, "repeat20(" + "repeat20();".repeat(29) + ");");
        Check.due("runScript", race.runScript(), 0);
    }
}
