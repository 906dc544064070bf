import java.util.ArrayList;
import java.util.HashMap;
import java.util.List;
import java.util.Map;

/**
 * How many draws there are, counted slot after slot from the left, for so many that they can't be listed. What may come
 * depends on who is used up, and on who was when the blocks began that some group must not share.
 */
final class SlotCount {
    private static final int BYE = 10, ROUNDS = 4;

    private record Group(int players, int level) {
    }

    private final int players;
    private final int slots;
    private final int wantBye;
    private final int[] seated;
    private final List<Group> groups = new ArrayList<>();
    private final Map<Long, Long> known = new HashMap<>();
    /** Who was used up when the block of each round began. */
    private final int[] usedAtStart = new int[ROUNDS + 1];
    private int highest;

    /** A player: club, region, seed. */
    SlotCount(int[][] rows, int[] levels) {
        players = rows.length;
        slots = AllDraws.slotsFor(players);
        seated = new int[players];
        int bits = 0;
        for (int player = 0; player < players; player++) {
            int seed = rows[player][2];
            seated[player] = AllDraws.seedSlot(seed, slots);
            bits |= seed > 0 && seed <= slots - players ? 1 << player : 0;
        }
        wantBye = bits;
        for (int what = 0; what < 2; what++) {
            for (int value = 1; value <= 5; value++) {
                int group = 0;
                for (int player = 0; player < players; player++) {
                    group |= rows[player][what] == value ? 1 << player : 0;
                }
                apart(group, levels[what]);
            }
        }
    }

    /** No two of these in one block of a round up to that one. */
    SlotCount apart(int group, int round) {
        if (Integer.bitCount(group) > 1 && round > 0) {
            groups.add(new Group(group, Math.min(round, ROUNDS)));
            highest = Math.max(highest, Math.min(round, ROUNDS));
        }
        return this;
    }

    /** 0, if a seed puts that player elsewhere. */
    long standing(int player, int slot) {
        if (seated[player] != -1 && seated[player] != slot) {
            return 0;
        }
        seated[player] = slot;
        return all();
    }

    long all() {
        for (int a = 0; a < players; a++) {
            for (int b = 0; b < a; b++) {
                if (seated[a] != -1 && seated[a] == seated[b]) {
                    return 0;
                }
            }
        }
        return from(0, 0, BYE);
    }

    private long from(int slot, int used, int neighbour) {
        if (slot == slots) {
            return Integer.bitCount(used) == players ? 1 : 0;
        }
        long key = slot * 11L + neighbour;
        for (int round = 1; round <= highest; round++) {
            if (slot % (1 << round) == 0) {
                usedAtStart[round] = used;
            }
            key = key << 10 | usedAtStart[round];
        }
        key = key << 10 | used;
        Long before = known.get(key);
        if (before != null) {
            return before;
        }
        int[] starts = usedAtStart.clone();
        long sum = 0;
        for (int who = 0; who <= players; who++) {
            int here = who == players ? BYE : who;
            if (mayStand(here, slot, used, neighbour)) {
                int next = slot % 2 == 0 ? here : BYE;
                sum += from(slot + 1, here == BYE ? used : used | 1 << here, next);
                System.arraycopy(starts, 0, usedAtStart, 0, starts.length);
            }
        }
        known.put(key, sum);
        return sum;
    }

    private boolean mayStand(int here, int slot, int used, int neighbour) {
        boolean second = slot % 2 == 1;
        for (int player = 0; player < players; player++) {
            if (seated[player] == slot && player != here) {
                return false;
            }
        }
        if (here == BYE) {
            return !(second && neighbour == BYE) && slot - Integer.bitCount(used) < slots - players;
        }
        boolean free = (used >> here & 1) == 0 && (seated[here] == -1 || seated[here] == slot);
        if (!free || second && neighbour != BYE && ((wantBye >> here | wantBye >> neighbour) & 1) == 1) {
            return false;
        }
        for (Group group : groups) {
            int there = used & ~usedAtStart[group.level] & group.players;
            if ((group.players >> here & 1) == 1 && there != 0) {
                return false;
            }
        }
        return true;
    }
}
