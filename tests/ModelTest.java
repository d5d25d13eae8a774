import java.math.BigInteger;
import java.util.ArrayList;
import java.util.List;
import java.util.Random;

/** All promises: runs of random calls, each answer against that of the plain model. The seeds are fixed. */
public final class ModelTest {
    private static final String[] SIDES = {"north", "east", "south", "west"};
    private static final String[] WAYS = {"level", "upright"};
    /** An object is used for at most 512 calls; the report at the end takes up to 284 of them. */
    private static final int CALLS = 512;

    private final Random random;
    private final PawnRace race = new PawnRace();
    private Model model = new Model();
    private Model saved;
    private final List<Model> past = new ArrayList<>();
    private String reported = "";
    private int calls;

    private ModelTest(long seed) {
        random = new Random(seed);
    }

    public static void main(String[] args) {
        int runs = args.length > 0 ? Integer.parseInt(args[0]) : 150;
        int from = args.length > 1 ? Integer.parseInt(args[1]) : 0;
        for (int seed = from; seed < from + runs; seed++) {
            new ModelTest(seed).run();
        }
        Check.end();
    }

    private void run() {
        while (calls < CALLS - 310) {
            int kind = random.nextInt(100);
            if (calls == 0 && kind < 90 || kind == 0) {
                readText(text());
            } else if (kind < 3) {
                readText(damaged(text()));
            } else if (kind < 6) {
                runScript(script());
            } else if (kind < 8) {
                runScript(damaged(script()));
            } else if (kind < 30) {
                turn();
            } else if (kind < 36) {
                keeping();
            } else {
                ask();
            }
        }
        all();
    }

    private int below(int n) {
        return random.nextInt(n);
    }

    // ---- texts

    private String text() {
        StringBuilder text = new StringBuilder();
        int width = 5;
        int height = 5;
        if (below(4) != 0) {
            width = 3 + below(7);
            height = 3 + below(7);
            text.append("board ").append(width).append(gap()).append(height).append(";");
        }
        if (below(3) == 0) {
            text.append("walls ").append(below(21)).append(";");
        }
        int pawns = below(10) == 0 ? below(2) : 2 + below(3);
        int before = below(3) == 0 ? below(12) : 0;
        blocks(text, before, width, height);
        for (int p = 0; p < pawns; p++) {
            String named = text + "pawn p" + (char) ('a' + p) + gap() + below(width) + gap() + below(height)
                + gap() + SIDES[below(4)] + (below(2) == 0 ? " walls " + below(8) : "") + ";";
            if (reads(named)) {
                text.setLength(0);
                text.append(named);
            }
        }
        for (int i = below(3) * below(5); i > 0; i--) {
            add(text, "ban p" + (char) ('a' + below(4)) + " " + rule(width, height) + ";");
        }
        blocks(text, below(2) == 0 ? below(25) : 0, width, height);
        return text.toString();
    }

    private String gap() {
        return new String[] {" ", " ", "\n", "  ", " \n "}[below(5)];
    }

    private void blocks(StringBuilder text, int number, int width, int height) {
        for (int i = 0; i < number; i++) {
            add(text, "block" + below(width - 1) + gap() + below(height - 1) + WAYS[below(2)] + ";");
        }
    }

    private String rule(int width, int height) {
        int n = 2 + below(4);
        switch (below(4)) {
            case 0:
                return "back";
            case 1:
                return "again";
            case 2:
                return SIDES[below(4)] + " every " + n + " at " + below(n);
            default:
                return SIDES[below(4)] + " from " + below(width) + " " + below(height) + " to " + below(width) + " "
                    + below(height);
        }
    }

    private static void add(StringBuilder text, String statement) {
        if (reads(text + statement)) {
            text.append(statement);
        }
    }

    private static boolean reads(String text) {
        try {
            ModelReader.race(text);
            return text.length() <= 700;
        } catch (ModelReader.Error e) {
            return false;
        }
    }

    private String damaged(String text) {
        StringBuilder damaged = new StringBuilder(text);
        for (int i = 1 + below(2); i > 0; i--) {
            int at = below(damaged.length() + 1);
            switch (below(5)) {
                case 0:
                    damaged.setLength(at);
                    break;
                case 1:
                    damaged.insert(at, " ;()0915az\u00ff\t-".charAt(below(13)));
                    break;
                case 2:
                    if (at < damaged.length()) {
                        damaged.setCharAt(at, (char) ('0' + below(10)));
                    }
                    break;
                case 3:
                    damaged.delete(at, Math.min(damaged.length(), at + 1 + below(8)));
                    break;
                default:
                    String words = "board walls pawn ban block repeat 2( play 0 1; pass; step north; ) ; 5 pa level";
                    String[] all = words.split(" ");
                    damaged.insert(at, " " + all[below(all.length)] + " ");
            }
        }
        return damaged.substring(0, Math.min(700, damaged.length()));
    }

    private String script() {
        StringBuilder script = new StringBuilder();
        commands(script, 0, 1 + below(8));
        return script.toString();
    }

    private void commands(StringBuilder script, int depth, int number) {
        for (int i = 0; i < number; i++) {
            int kind = below(8);
            if (kind < 3) {
                script.append("step ").append(SIDES[below(4)]);
            } else if (kind == 3) {
                script.append("wall ").append(below(9)).append(gap()).append(below(9)).append(WAYS[below(2)]);
            } else if (kind == 4 && below(3) == 0) {
                script.append("pass");
            } else if (kind == 5 && depth < 2) {
                script.append("repeat ").append(1 + below(20)).append("(");
                commands(script, depth + 1, below(4));
                script.append(")");
            } else {
                script.append("play ").append(below(20) == 0 ? 2 : below(2)).append(gap()).append(below(4));
            }
            script.append(";").append(below(3) == 0 ? gap() : "");
        }
    }

    private void feed(String text) {
        Check.fill(race, text);
        calls += 2 + text.length() / 20;
    }

    private void readText(String text) {
        feed(text);
        String due;
        int code = 0;
        int position = PawnRace.NONE;
        try {
            model = ModelReader.race(text);
            due = "" + model.racers.size();
            past.clear();
        } catch (ModelReader.Error e) {
            due = "throws IllegalArgumentException";
            code = e.code;
            position = e.position;
        }
        compare("readText " + text, Check.outcome(race::readText), due);
        compare("errorCode " + text, race.errorCode(), code);
        compare("errorPosition " + text, race.errorPosition(), position);
    }

    private void runScript(String text) {
        feed(text);
        String due;
        int code = 0;
        int position = PawnRace.NONE;
        try {
            List<ModelReader.Command> script = ModelReader.script(text);
            keep();
            int[] done = new int[1];
            ModelReader.run(model, script, done);
            due = "" + done[0];
        } catch (ModelReader.Error e) {
            due = "throws IllegalArgumentException";
            code = e.code;
            position = e.position;
        }
        compare("runScript " + text, Check.outcome(race::runScript), due);
        compare("errorCode " + text, race.errorCode(), code);
        compare("errorPosition " + text, race.errorPosition(), position);
    }

    private void keep() {
        past.add(model.copy());
        if (past.size() > 6) {
            past.remove(0);
        }
    }

    private void compare(String what, long got, long due) {
        calls++;
        Check.due(what, got, due);
    }

    private void compare(String what, String got, String due) {
        calls++;
        Check.due(what, got, due);
    }

    private void compare(String what, boolean got, boolean due) {
        compare(what, got ? 1 : 0, due ? 1 : 0);
    }

    // ---- turns

    private void turn() {
        int kind = below(10);
        if (kind < 5) {
            int direction = below(8) == 0 ? below(6) - 1 : toward();
            Model before = model.copy();
            String due = direction < 0 || direction > 3 ? "throws IllegalArgumentException"
                : model.step(direction) ? "" + model.distance(before.turn) : "throws IllegalStateException";
            changed(before, due);
            compare("step " + direction, Check.outcome(() -> race.step(direction)), due);
        } else if (kind < 8) {
            int x = below(model.width + 1) - (below(9) == 0 ? 1 : 0);
            int y = below(model.height + 1) - (below(9) == 0 ? 1 : 0);
            boolean upright = random.nextBoolean();
            Model before = model.copy();
            String due = !model.isPlace(x, y) ? "throws IndexOutOfBoundsException"
                : model.build(x, y, upright) ? "" + model.racers.get(before.turn).walls
                : "throws IllegalStateException";
            changed(before, due);
            compare("build " + x + " " + y + upright, Check.outcome(() -> race.build(x, y, upright)), due);
        } else if (kind == 8) {
            Model before = model.copy();
            String due = model.pass() ? "" + model.turnOf() : "throws IllegalStateException";
            changed(before, due);
            compare("pass", Check.outcome(race::pass), due);
        } else {
            int mode = below(12) == 0 ? 2 - 3 * below(2) : below(2);
            int turns = below(12) == 0 ? 100 * below(2) : below(40) == 0 ? 99 : 1 + below(5);
            Model before = model.copy();
            String due = mode < 0 || mode > 1 || turns < 1 || turns > 99 ? "throws IllegalArgumentException"
                : "" + model.play(mode, turns);
            changed(before, due);
            compare("play " + mode + " " + turns, Check.outcome(() -> race.play(mode, turns)), due);
        }
    }

    /** A direction that can be taken, mostly. */
    private int toward() {
        int pawn = model.turnOf();
        return pawn == PawnRace.NONE || below(3) == 0 || model.steps(pawn) == 0 ? below(4) : model.advised(pawn);
    }

    private void changed(Model before, String due) {
        if (!due.startsWith("throws")) {
            Model after = model;
            model = before;
            keep();
            model = after;
        }
    }

    private void keeping() {
        switch (below(6)) {
            case 0:
                saved = model.copy();
                compare("save", race.save(), model.turns);
                break;
            case 1:
                if (saved != null) {
                    model = saved.copy();
                    past.clear();
                }
                compare("restore", Check.outcome(race::restore),
                    saved == null ? "throws IllegalStateException" : "" + saved.turns);
                break;
            case 2:
                reported = model.report();
                compare("report", race.report(), reported.length());
                break;
            default:
                boolean any = !past.isEmpty();
                if (any) {
                    model = past.remove(past.size() - 1);
                }
                compare("undo", race.undo(), any ? past.size() : PawnRace.NONE);
        }
    }

    // ---- questions

    private void ask() {
        int kind = below(12);
        if (kind == 0) {
            askRace();
        } else if (kind < 3) {
            askPlace(below(11) - 1, below(11) - 1, random.nextBoolean());
        } else if (kind == 3) {
            int i = below(reported.length() + 2) - 1;
            compare("reportByte " + i, Check.outcome(() -> race.reportByte(i)),
                i < 0 || i >= reported.length() ? "throws IndexOutOfBoundsException" : "" + (int) reported.charAt(i));
        } else {
            int p = below(model.racers.size() + 1) - (below(8) == 0 ? 1 : 0);
            if (p < 0 || p >= model.racers.size()) {
                askNobody(p);
            } else if (kind < 8) {
                askPawn(p);
            } else {
                askWays(p, below(5));
            }
        }
    }

    private void askRace() {
        int[] due = {model.width, model.height, model.racers.size(), model.walls.size(), model.turns,
            model.finished(), model.rules.size()};
        int what = below(9) - 1;
        compare("setting " + what, Check.outcome(() -> race.setting(what)),
            what < 0 || what > 6 ? "throws IllegalArgumentException" : "" + due[what]);
        compare("turnOf", race.turnOf(), model.turnOf());
        compare("isOver", race.isOver(), model.over());
        compare("leader", race.leader(), model.leader());
        int rank = below(6) - 1;
        int ranked = PawnRace.NONE;
        for (int p = 0; p < model.racers.size(); p++) {
            ranked = rank > 0 && model.racers.get(p).rank == rank ? p : ranked;
        }
        compare("ranked " + rank, race.ranked(rank), ranked);
        compare("admissible", race.admissible(), model.countAdmissible());
        compare("regions", race.regions(), model.regions());
    }

    private void askPlace(int x, int y, boolean upright) {
        String bounds = "throws IndexOutOfBoundsException";
        boolean cell = model.isCell(x, y);
        boolean place = model.isPlace(x, y);
        int d = below(6) - 1;
        boolean noDirection = d < 0 || d > 3;
        compare("pawnAt", Check.outcome(() -> race.pawnAt(x, y)), cell ? "" + model.pawnAt(x, y) : bounds);
        compare("isBlocked", Check.outcome(() -> race.isBlocked(x, y, d) ? 1 : 0), !cell ? bounds
            : noDirection ? "throws IllegalArgumentException" : model.blocked(x, y, d) ? "1" : "0");
        compare("wallAt", Check.outcome(() -> race.wallAt(x, y)), place ? "" + model.wallAt(x, y) : bounds);
        compare("isAdmissible", Check.outcome(() -> race.isAdmissible(x, y, upright) ? 1 : 0),
            !place ? bounds : model.admissible(x, y, upright) ? "1" : "0");
        int p = below(model.racers.size() + 1);
        boolean known = p < model.racers.size();
        compare("harm", Check.outcome(() -> race.harm(p, x, y, upright)), !known || !place ? bounds
            : !model.admissible(x, y, upright) ? "throws IllegalStateException"
            : "" + (model.with(x, y, upright).distance(p) - model.distance(p)));
        compare("distanceFrom", Check.outcome(() -> race.distanceFrom(p, x, y)), !known || !cell ? bounds
            : "" + model.distanceFrom(model.racers.get(p).side, x, y));
        compare("isGate", Check.outcome(() -> race.isGate(p, x, y) ? 1 : 0), !known || !cell ? bounds
            : model.gate(p, x, y) ? "1" : "0");
    }

    private void askNobody(int p) {
        List<Check.Call> all = List.of(() -> race.pawn(p, 9), () -> race.canStep(p, 9) ? 1 : 0,
            () -> race.isBanned(p, -1) ? 1 : 0, () -> race.steps(p), () -> race.distance(p), () -> race.ways(p),
            () -> race.onWays(p), () -> race.gates(p), () -> race.stepsWithBans(p), () -> race.waysWithBans(p, 201),
            () -> race.detour(p), () -> race.advised(p), () -> race.bestWall(p), () -> race.gain(p),
            () -> race.foreseen(7, 0, p));
        compare("a call for pawn " + p, Check.outcome(all.get(below(all.size()))), "throws IndexOutOfBoundsException");
    }

    private void askPawn(int p) {
        Model.Racer r = model.racers.get(p);
        int bans = (int) model.rules.stream().filter(rule -> rule.pawn == p).count();
        int[] due = {r.x, r.y, r.side, r.walls, r.made, r.latest, r.rank, bans};
        int what = below(10) - 1;
        compare("pawn " + p + " " + what, Check.outcome(() -> race.pawn(p, what)),
            what < 0 || what > 7 ? "throws IllegalArgumentException" : "" + due[what]);
        int d = below(6) - 1;
        boolean none = d < 0 || d > 3;
        compare("canStep", Check.outcome(() -> race.canStep(p, d) ? 1 : 0),
            none ? "throws IllegalArgumentException" : model.target(p, d) != null ? "1" : "0");
        compare("isBanned", Check.outcome(() -> race.isBanned(p, d) ? 1 : 0),
            none ? "throws IllegalArgumentException" : model.banned(p, d) ? "1" : "0");
        compare("steps", race.steps(p), model.steps(p));
        compare("distance", race.distance(p), model.distance(p));
        compare("advised", race.advised(p), model.advised(p));
    }

    private void askWays(int p, int kind) {
        if (kind == 0) {
            compare("ways", race.ways(p), model.ways(p));
            compare("onWays", race.onWays(p), model.onWays(p));
            compare("gates", race.gates(p), model.gates(p));
        } else if (kind == 1) {
            int most = below(6) == 0 ? 200 : 40;
            BigInteger[] due = model.waysWithBans(p, most);
            int least = PawnRace.NONE;
            for (int n = most; n >= 0; n--) {
                least = due[n].signum() != 0 ? n : least;
            }
            int n = below(most + 1);
            compare("waysWithBans " + n, race.waysWithBans(p, n), due[n].mod(BigInteger.valueOf(1000003)).intValue());
            if (most == 200 || least != PawnRace.NONE) {
                compare("stepsWithBans", race.stepsWithBans(p), least);
                compare("detour", race.detour(p), least == PawnRace.NONE ? least : least - model.distance(p));
            }
            compare("waysWithBans", Check.outcome(() -> race.waysWithBans(p, 201)), "throws IllegalArgumentException");
        } else if (kind == 2) {
            int[] best = model.best(p);
            compare("bestWall", race.bestWall(p), best == null ? -1 : 100 * best[2] + 10 * best[1] + best[0]);
            compare("gain", race.gain(p), best == null ? -1 : best[3]);
        } else if (kind == 3) {
            int mode = below(10) == 0 ? 2 : below(4) == 0 ? 1 : 0;
            int turns = below(10) == 0 ? 100 : 1 + below(mode == 1 ? 8 : 60);
            Model then = model.copy();
            compare("foreseen", Check.outcome(() -> race.foreseen(mode, turns, p)), mode > 1 || turns > 99
                ? "throws IllegalArgumentException" : "" + (then.play(mode, turns) * 0 + then.racers.get(p).rank));
        }
    }

    /** The whole state at the end. */
    private void all() {
        askRace();
        compare("report", Check.report(race), model.report());
        for (int p = 0; p < model.racers.size(); p++) {
            askPawn(p);
        }
    }
}
