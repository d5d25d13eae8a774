import java.util.ArrayList;
import java.util.List;

/** Reads texts and scripts by recursive descent, straight from the document's grammar. Only tests use it. */
final class ModelReader {
    static final class Error extends RuntimeException {
        private static final long serialVersionUID = 1L;
        final int code;
        final int position;

        Error(int code, int position) {
            super("code " + code + " at " + position);
            this.code = code;
            this.position = position;
        }
    }

    private final String text;
    private int at;
    private int start;
    private String token;

    private ModelReader(String text) {
        this.text = text;
        next();
    }

    /** The token is "" at the end, and "?" if it is an invalid one. */
    private void next() {
        while (at < text.length() && (text.charAt(at) == ' ' || text.charAt(at) == '\n')) {
            at++;
        }
        start = at;
        if (at == text.length()) {
            token = "";
            return;
        }
        String rest = text.substring(at);
        String run = rest.replaceFirst("(?s)^([a-z]+|[0-9]+|.).*$", "$1");
        at += run.length();
        boolean valid = run.matches("[a-z]{1,8}|[0-9]{1,3}|[;()]");
        token = valid ? run : "?";
    }

    private Error error(int code) {
        return new Error(code, start);
    }

    private void need(String wanted) {
        if (!token.equals(wanted)) {
            throw error(1);
        }
        next();
    }

    private int number(int low, int high) {
        if (!token.matches("[0-9]+")) {
            throw error(1);
        }
        int value = Integer.parseInt(token);
        if (value < low || value > high) {
            throw error(2);
        }
        next();
        return value;
    }

    private int oneOf(String... words) {
        for (int i = 0; i < words.length; i++) {
            if (token.equals(words[i])) {
                next();
                return i;
            }
        }
        throw error(1);
    }

    private int side() {
        return oneOf("north", "east", "south", "west");
    }

    static Model race(String text) {
        ModelReader reader = new ModelReader(text);
        Model model = new Model();
        List<String> names = new ArrayList<>();
        boolean[] seen = new boolean[2];
        int[] usual = {5};
        int[] blocks = {0};
        while (!reader.token.isEmpty()) {
            reader.statement(model, names, seen, usual, blocks);
        }
        return model;
    }

    private void statement(Model model, List<String> names, boolean[] seen, int[] usual, int[] blocks) {
        switch (token) {
            case "board" -> {
                if (seen[0] || !model.racers.isEmpty() || !model.walls.isEmpty()) {
                    throw error(3);
                }
                seen[0] = true;
                next();
                model.width = number(3, 9);
                model.height = number(3, 9);
                need(";");
            }
            case "walls" -> {
                if (seen[1]) {
                    throw error(3);
                }
                seen[1] = true;
                next();
                usual[0] = number(0, 20);
                need(";");
            }
            case "pawn" -> pawn(model, names, usual[0]);
            case "ban" -> ban(model, names);
            case "block" -> {
                if (++blocks[0] > 40) {
                    throw error(6);
                }
                next();
                int x = number(0, model.width - 2);
                int y = number(0, model.height - 2);
                boolean upright = oneOf("level", "upright") == 1;
                if (token.equals(";") && !model.admissible(x, y, upright)) {
                    throw error(5);
                }
                need(";");
                model.walls.add(new Model.Wall(x, y, upright));
            }
            default -> throw error(1);
        }
    }

    private void pawn(Model model, List<String> names, int usual) {
        if (names.size() == 4) {
            throw error(6);
        }
        next();
        if (!token.matches("[a-z]+")) {
            throw error(1);
        }
        if (names.contains(token)) {
            throw error(4);
        }
        String name = token;
        next();
        Model.Racer racer = new Model.Racer();
        racer.x = number(0, model.width - 1);
        int yStart = start;
        racer.y = number(0, model.height - 1);
        if (model.pawnAt(racer.x, racer.y) != Model.NONE) {
            throw new Error(4, yStart);
        }
        int sideStart = start;
        racer.side = side();
        if (model.atSide(racer.x, racer.y, racer.side)) {
            throw new Error(4, sideStart);
        }
        racer.walls = usual;
        if (token.equals("walls")) {
            next();
            racer.walls = number(0, 20);
        }
        if (token.equals(";") && model.distanceFrom(racer.side, racer.x, racer.y) == Model.NONE) {
            throw error(5);
        }
        need(";");
        names.add(name);
        model.racers.add(racer);
    }

    private void ban(Model model, List<String> names) {
        if (model.rules.size() == 12) {
            throw error(6);
        }
        next();
        if (!token.matches("[a-z]+")) {
            throw error(1);
        }
        Model.Rule rule = new Model.Rule();
        rule.pawn = names.indexOf(token);
        if (rule.pawn < 0) {
            throw error(4);
        }
        next();
        if (token.equals("back") || token.equals("again")) {
            rule.kind = token;
            next();
        } else {
            rule.side = side();
            rule.kind = token;
            if (oneOf("every", "from") == 0) {
                rule.n = number(2, 5);
                need("at");
                rule.r = number(0, rule.n - 1);
            } else {
                rule.x1 = number(0, model.width - 1);
                rule.y1 = number(0, model.height - 1);
                need("to");
                rule.x2 = number(0, model.width - 1);
                rule.y2 = number(0, model.height - 1);
            }
        }
        need(";");
        model.rules.add(rule);
    }

    /** A command of a script: its kind, its numbers, and the script of a "repeat". */
    record Command(String kind, int a, int b, int c, List<Command> inner) {
    }

    static List<Command> script(String text) {
        ModelReader reader = new ModelReader(text);
        List<Command> script = reader.commands(0, new int[1]);
        if (!reader.token.isEmpty()) {
            throw reader.error(1);
        }
        return script;
    }

    private List<Command> commands(int depth, int[] count) {
        List<Command> commands = new ArrayList<>();
        while (!token.isEmpty() && !(token.equals(")") && depth > 0)) {
            commands.add(command(depth, count));
            need(";");
        }
        return commands;
    }

    private Command command(int depth, int[] count) {
        String kind = token;
        if (!List.of("step", "wall", "pass", "play", "repeat").contains(kind)) {
            throw error(1);
        }
        if (kind.equals("repeat") && depth == 2) {
            throw error(3);
        }
        if (++count[0] > 30) {
            throw error(6);
        }
        next();
        switch (kind) {
            case "step":
                return new Command(kind, side(), 0, 0, null);
            case "wall":
                return new Command(kind, number(0, 99), number(0, 99), oneOf("level", "upright"), null);
            case "play":
                return new Command(kind, number(0, 99), number(0, 99), 0, null);
            case "repeat":
                int times = number(1, 20);
                need("(");
                List<Command> inner = commands(depth + 1, count);
                need(")");
                return new Command(kind, times, 0, 0, inner);
            default:
                return new Command(kind, 0, 0, 0, null);
        }
    }

    /** Runs commands; done[0] counts them. Returns false if the script has ended. */
    static boolean run(Model model, List<Command> commands, int[] done) {
        for (Command command : commands) {
            if (done[0] == 40) {
                return false;
            }
            if (command.kind().equals("repeat")) {
                for (int i = 0; i < command.a(); i++) {
                    if (!run(model, command.inner(), done)) {
                        return false;
                    }
                }
                continue;
            }
            if (!perform(model, command)) {
                return false;
            }
            done[0]++;
        }
        return true;
    }

    private static boolean perform(Model model, Command command) {
        switch (command.kind()) {
            case "step":
                return model.step(command.a());
            case "wall":
                return model.build(command.a(), command.b(), command.c() == 1);
            case "pass":
                return model.pass();
            default:
                if (command.a() > 1 || command.b() < 1) {
                    return false;
                }
                model.play(command.a(), command.b());
                return true;
        }
    }
}
