import java.util.Random;

/**
 * Promises 8 to 18 where there are too many draws to be listed, of 8 to 10 players: counts against SlotCount, which
 * counts another way, and against each other; numbers against the order of draws.
 */
public final class ManyDrawsTest {
    private static final int OBJECTS = 50, ASKED = 5, TAKEN = 8;

    private final Random random;
    private final String name;
    private BracketDraws x;
    private int players;
    private int slots;
    private int rounds;
    /** Of each player club, region, seed; read once, as an object is good for 512 calls. */
    private int[][] rows;
    private int[] levels;
    private long all;

    private ManyDrawsTest(int number) {
        random = new Random(number * 104729L + 5);
        name = "object " + number + ", ";
    }

    public static void main(String[] args) {
        int from = args.length > 0 ? Integer.parseInt(args[0]) : 0;
        int objects = args.length > 1 ? Integer.parseInt(args[1]) : OBJECTS;
        int many = 0;
        for (int number = from; number < from + objects; number++) {
            ManyDrawsTest test = new ManyDrawsTest(number);
            test.come();
            test.counts();
            test.sums();
            test.numbers();
            many += test.all > 1_000_000 ? 1 : 0;
        }
        Check.holds("a third of the objects at least have more than a million draws", 3 * many >= objects);
        Check.end();
    }

    /** Few seeds and small groups, so that many draws are left. */
    private void come() {
        x = new BracketDraws();
        players = 8 + random.nextInt(3);
        int clubs = random.nextInt(6);
        int regions = random.nextInt(4);
        int oneIn = 1 + random.nextInt(5);
        for (int player = 0; player < players; player++) {
            int club = random.nextInt(2) == 0 ? 0 : random.nextInt(clubs + 1);
            int region = random.nextInt(2) == 0 ? 0 : random.nextInt(regions + 1);
            int seed = random.nextInt(oneIn * 2) == 0 ? random.nextInt(9) : 0;
            if (x.player(club, region, seed, 0) == -1) {
                x.player(club, region, 0, 0);
            }
        }
        x.level(0, random.nextInt(3));
        x.level(1, random.nextInt(2));
        x.relaxed(1);
        slots = x.count(1);
        rounds = x.count(3);
        levels = new int[] {x.count(5), x.count(6)};
        rows = new int[players][3];
        for (int player = 0; player < players; player++) {
            for (int what = 0; what < 3; what++) {
                rows[player][what] = x.of(player, what);
            }
        }
        all = x.howMany();
    }

    private SlotCount counter() {
        return new SlotCount(rows, levels);
    }

    private void due(String call, long got, long want) {
        Check.due(name + call, got, want);
    }

    private int someone() {
        return random.nextInt(players);
    }

    private int otherThan(int player) {
        return (player + 1 + random.nextInt(players - 1)) % players;
    }

    private void counts() {
        due("howMany()", all, counter().all());
        for (int i = 0; i < ASKED; i++) {
            int player = someone();
            int other = otherThan(player);
            int slot = random.nextInt(slots);
            int round = 1 + random.nextInt(rounds);
            int set = random.nextInt(1 << players) & random.nextInt(1 << players);
            int two = 1 << player | 1 << other;
            due("stands(" + player + ", " + slot + ")", x.stands(player, slot),
                    counter().standing(player, slot));
            due("meets(" + player + ", " + other + ", " + round + ")", x.meets(player, other, round),
                    counter().apart(two, round - 1).all() - counter().apart(two, round).all());
            due("apart(" + set + ", " + round + ")", x.apart(set, round), counter().apart(set, round).all());
        }
    }

    /** Each one stands in one slot; two meet in one round at the soonest; so many pairs have no bye. */
    private void sums() {
        int player = someone();
        long stand = 0;
        for (int slot = 0; slot < slots; slot++) {
            stand += x.stands(player, slot);
        }
        due("all slots of " + player, stand, all);
        int other = otherThan(player);
        long meet = 0;
        for (int round = 1; round <= rounds; round++) {
            meet += x.meets(player, other, round);
            due("up to round " + round, meet + x.apart(1 << player | 1 << other, round), all);
        }
        long pairs = 0;
        for (int a = 0; a < players; a++) {
            for (int b = 0; b < a; b++) {
                pairs += x.meets(a, b, 1);
            }
        }
        due("pairs without a bye", pairs, all * (players - slots / 2));
    }

    private int[] taken() {
        int[] draw = new int[slots];
        for (int slot = 0; slot < draw.length; slot++) {
            draw[slot] = x.slot(slot);
        }
        return draw;
    }

    private void numbers() {
        if (all < 1) {
            return;
        }
        int[] before = null;
        long number = 0;
        long step = Math.max(1, all / TAKEN);
        for (int i = 0; i < TAKEN && number < all; i++) {
            due("take(" + number + ")", x.take(number), slots - players);
            int[] draw = taken();
            if (before != null) {
                Check.holds(name + "draw " + number + " comes behind an earlier one",
                        AllDraws.compare(before, draw, 0, draw.length) < 0);
            }
            before = draw;
            swap(number, draw);
            number += i % 2 == 0 ? 1 : 1 + random.nextInt((int) Math.min(2 * step, Integer.MAX_VALUE));
        }
    }

    /** There and back again; where it is none, a seed, a bye or a group stands against it. */
    private void swap(long number, int[] draw) {
        int player = someone();
        int other = otherThan(player);
        int[] changed = draw.clone();
        changed[x.where(player)] = other;
        changed[x.where(other)] = player;
        boolean lawful = AllDraws.isLawful(rows, levels[0], levels[1], changed);
        long there = x.swapped(player, other);
        due("swapped(" + player + ", " + other + ") of " + number + " is one", there < 0 ? 0 : 1, lawful ? 1 : 0);
        if (there < 0) {
            due("swapped(" + player + ", " + other + ") of " + number, there, -2);
            return;
        }
        due("take(" + there + ")", x.take(there), slots - players);
        Check.due(name + "draw " + there, java.util.Arrays.toString(taken()), java.util.Arrays.toString(changed));
        due("swapped(" + player + ", " + other + ") of " + there, x.swapped(player, other), number);
    }
}
