/** All that a race answers of its state; what the tests compare where nothing may have changed. */
final class Snapshot {
    private Snapshot() {
    }

    static String of(PawnRace race) {
        StringBuilder text = new StringBuilder();
        for (int what = 0; what <= 6; what++) {
            text.append(race.setting(what)).append(' ');
        }
        for (int pawn = 0; pawn < race.setting(2); pawn++) {
            for (int what = 0; what <= 7; what++) {
                text.append(race.pawn(pawn, what)).append(what < 7 ? ' ' : '\n');
            }
            text.append("bans ");
            for (int direction = 0; direction < 4; direction++) {
                text.append(race.isBanned(pawn, direction) ? 1 : 0);
            }
        }
        text.append(" turn ").append(race.turnOf()).append(race.isOver());
        int width = race.setting(0);
        int height = race.setting(1);
        for (int y = 0; y < height - 1; y++) {
            for (int x = 0; x < width - 1; x++) {
                text.append(race.wallAt(x, y)).append(race.isBlocked(x, y, 0)).append(race.isBlocked(x, y, 1));
            }
        }
        return text.toString();
    }
}
