import java.nio.charset.StandardCharsets;

/** Counts answers that are not as due; what all tests share. */
final class Check {
    private static int wrong = 0;
    private static int checked = 0;

    private Check() {
    }

    interface Call {
        long answer();
    }

    static void due(String what, long got, long want) {
        checked++;
        if (got != want) {
            wrong++;
            System.out.println(what + " answered " + got + ", due is " + want);
        }
    }

    static void due(String what, boolean got, boolean want) {
        due(what, got ? 1 : 0, want ? 1 : 0);
    }

    static void due(String what, String got, String want) {
        checked++;
        if (!got.equals(want)) {
            wrong++;
            System.out.println(what + " answered " + got + ", due is " + want);
        }
    }

    static void outOfBounds(String what, Call call) {
        due(what, outcome(call), "throws IndexOutOfBoundsException");
    }

    static void illegalArgument(String what, Call call) {
        due(what, outcome(call), "throws IllegalArgumentException");
    }

    static void illegalState(String what, Call call) {
        due(what, outcome(call), "throws IllegalStateException");
    }

    /** The answer of a call, or the exact name of what it throws. */
    static String outcome(Call call) {
        try {
            return Long.toString(call.answer());
        } catch (RuntimeException e) {
            return "throws " + e.getClass().getSimpleName();
        }
    }

    /** Puts a text into the buffer, which is empty. */
    static void fill(PawnRace race, String text) {
        fill(race, text.getBytes(StandardCharsets.ISO_8859_1));
    }

    static void fill(PawnRace race, byte[] text) {
        for (int i = 0; i < text.length; i += 20) {
            race.feed(four(text, i), four(text, i + 4), four(text, i + 8), four(text, i + 12), four(text, i + 16));
        }
        race.truncate(text.length);
    }

    private static int four(byte[] text, int from) {
        int four = 0;
        for (int i = from; i < from + 4; i++) {
            four = four << 8 | (i < text.length ? text[i] & 255 : 0);
        }
        return four;
    }

    static PawnRace read(String text) {
        PawnRace race = new PawnRace();
        fill(race, text);
        race.readText();
        return race;
    }

    static int run(PawnRace race, String script) {
        fill(race, script);
        return race.runScript();
    }

    static String report(PawnRace race) {
        int bytes = race.report();
        StringBuilder report = new StringBuilder();
        for (int i = 0; i < bytes; i++) {
            report.append((char) race.reportByte(i));
        }
        return report.toString();
    }

    static void end() {
        System.out.println(wrong == 0 ? checked + " answers are as due" : wrong + " answers are not as due");
        if (wrong != 0 || checked == 0) {
            System.exit(1);
        }
    }
}
