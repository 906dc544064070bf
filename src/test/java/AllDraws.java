import java.util.ArrayList;
import java.util.Arrays;
import java.util.List;

/**
 * Every draw of some players, found by placing slot after slot and kept in the document's order. Each draw is a row of
 * who stands in each slot, 10 for a bye. Slow on purpose: nothing here is shared with the class under test.
 */
final class AllDraws {
    static final int BYE = 10;
    private static final int MOST_DRAWS = 45_000;
    private static final int MOST_STEPS = 600_000;

    final boolean complete;
    final List<int[]> draws = new ArrayList<>();
    private final int[][] players;
    private final int[] levels;
    private final int slots;
    private final int[] row;
    private final int[] seedSlots;
    private final int[] seated;
    private int steps;

    /** A player: club, region, seed. */
    AllDraws(int[][] players, int clubLevel, int regionLevel) {
        this(players, clubLevel, regionLevel, true);
    }

    private AllDraws(int[][] players, int clubLevel, int regionLevel, boolean list) {
        this.players = players;
        levels = new int[] {clubLevel, regionLevel};
        slots = slotsFor(players.length);
        row = new int[slots];
        seedSlots = new int[players.length];
        seated = new int[slots];
        Arrays.fill(seated, -1);
        for (int who = 0; who < players.length; who++) {
            seedSlots[who] = seedSlot(players[who][2], slots);
            if (seedSlots[who] >= 0) {
                seated[seedSlots[who]] = who;
            }
        }
        if (list) {
            place(0, 0);
        }
        complete = list && draws.size() <= MOST_DRAWS && steps <= MOST_STEPS;
        if (complete) {
            draws.sort((a, b) -> compare(a, b, 0, slots));
        }
    }

    static int slotsFor(int players) {
        return players <= 2 ? 2 : players <= 4 ? 4 : players <= 8 ? 8 : 16;
    }

    /** The rows as the document tells them: each number becomes two. */
    static int seedSlot(int seed, int slots) {
        List<Integer> line = List.of(1);
        while (line.size() < slots) {
            List<Integer> longer = new ArrayList<>();
            for (int s : line) {
                longer.add(s);
                longer.add(2 * line.size() + 1 - s);
            }
            line = longer;
        }
        return seed == 0 ? -1 : line.indexOf(seed);
    }

    static int compare(int[] a, int[] b, int from, int to) {
        if (to - from < 2) {
            return 0;
        }
        int middle = (from + to) / 2;
        int sets = Integer.compare(set(a, from, middle), set(b, from, middle));
        if (sets != 0) {
            return sets;
        }
        int first = compare(a, b, from, middle);
        return first != 0 ? first : compare(a, b, middle, to);
    }

    static int set(int[] draw, int from, int to) {
        int set = 0;
        for (int slot = from; slot < to; slot++) {
            set |= draw[slot] == BYE ? 0 : 1 << draw[slot];
        }
        return set;
    }

    int indexOf(int[] draw) {
        for (int i = 0; i < draws.size(); i++) {
            if (Arrays.equals(draws.get(i), draw)) {
                return i;
            }
        }
        return -1;
    }

    /** Whether a row, in which each player stands once, is a draw. */
    static boolean isLawful(int[][] players, int clubLevel, int regionLevel, int[] draw) {
        AllDraws one = new AllDraws(players, clubLevel, regionLevel, false);
        for (int slot = 0; slot < one.slots; slot++) {
            one.row[slot] = draw[slot];
            if (!one.lawfulSoFar(slot)) {
                return false;
            }
        }
        return true;
    }

    private void place(int slot, int used) {
        if (draws.size() > MOST_DRAWS || ++steps > MOST_STEPS) {
            return;
        }
        if (slot == slots) {
            if (Integer.bitCount(used) == players.length) {
                draws.add(row.clone());
            }
            return;
        }
        int byes = slots - players.length;
        int byesSoFar = slot - Integer.bitCount(used);
        for (int who = 0; who <= players.length; who++) {
            boolean bye = who == players.length;
            if (bye ? byesSoFar >= byes : (used >> who & 1) == 1) {
                continue;
            }
            row[slot] = bye ? BYE : who;
            if (lawfulSoFar(slot)) {
                place(slot + 1, bye ? used : used | 1 << who);
            }
        }
    }

    private boolean lawfulSoFar(int slot) {
        int here = row[slot];
        if (seated[slot] != -1 && seated[slot] != here) {
            return false;
        }
        if (here != BYE && seedSlots[here] != -1 && seedSlots[here] != slot) {
            return false;
        }
        if (slot % 2 == 1 && !pairLawful(row[slot - 1], here)) {
            return false;
        }
        for (int earlier = 0; earlier < slot; earlier++) {
            if (tooClose(earlier, slot)) {
                return false;
            }
        }
        return true;
    }

    private boolean pairLawful(int a, int b) {
        if (a == BYE && b == BYE) {
            return false;
        }
        return a == BYE || b == BYE || !wantsBye(a) && !wantsBye(b);
    }

    private boolean wantsBye(int who) {
        int seed = players[who][2];
        return seed != 0 && seed <= slots - players.length;
    }

    private boolean tooClose(int slot, int other) {
        int a = row[slot];
        int b = row[other];
        if (a == BYE || b == BYE) {
            return false;
        }
        for (int what = 0; what < 2; what++) {
            boolean alike = players[a][what] != 0 && players[a][what] == players[b][what];
            for (int round = 1; round <= levels[what] && alike; round++) {
                if (slot >> round == other >> round) {
                    return true;
                }
            }
        }
        return false;
    }
}
