/** Promises 8 to 11 at their edges, sentence by sentence: which draws there are, and how many of which. */
public final class CountsEdgesTest {
    private static final int BAD = -1, STATE = -5;
    private static final int MIN = Integer.MIN_VALUE, MAX = Integer.MAX_VALUE;
    private static final String EIGHT = "x1;x1;x1;x1;x1;x1;x1;x1";

    public static void main(String[] args) {
        Check.all(CountsEdgesTest.class);
    }

    /** So many plain players: they choose which pairs have a bye, on which side, and stand in any order. */
    private static long plainDraws(int players) {
        int slots = AllDraws.slotsFor(players);
        int byes = slots - players;
        long draws = 1;
        for (int i = 1; i <= byes; i++) {
            draws = draws * (slots / 2 + 1 - i) / i;
        }
        return (draws << byes) * factorial(players);
    }

    private static long factorial(int n) {
        long product = 1;
        for (int i = 2; i <= n; i++) {
            product *= i;
        }
        return product;
    }

    // ---- promise 8

    /** Promise 8: "HOW MANY." "STATE: fewer than 2 PLAYERS." "(There is no DRAW of fewer than 2.)" */
    static void promise8FewerThanTwo() {
        Check.due("howMany() of 0", Calls.plain(0).howMany(), STATE);
        Check.due("howMany() of 1", Calls.plain(1).howMany(), STATE);
        Check.due("howMany() of 2", Calls.plain(2).howMany(), 2);
        BracketDraws x = Calls.plain(1);
        x.image();
        x.player(0, 0, 0, 0);
        Check.due("howMany() of 2", x.howMany(), 2);
        x.back();
        Check.due("howMany() of 1 again", x.howMany(), STATE);
    }

    /** Promise 8: "HOW MANY: all of them." From 2 to 10 players: the greatest is above the greatest int. */
    static void promise8AllOfThem() {
        for (int players = 2; players <= 10; players++) {
            Check.due("howMany() of " + players, Calls.plain(players).howMany(), plainDraws(players));
        }
        Check.due("howMany() of 10", Calls.plain(10).howMany(), 6502809600L);
    }

    /** Promises 8 to 11, 19: "HOW MANY: all of them." As players and levels are by now, whatever was asked before. */
    static void promises8To11And19AsAllIsByNow() {
        Call[] changes = {x -> x.tell(0, 0, 2), x -> x.tell(0, 0, 1), x -> x.tell(4, 0, 2), x -> x.tell(0, 1, 0),
            x -> x.tell(4, 1, 2), x -> x.tell(0, 2, 0), x -> x.tell(0, 2, 3), x -> x.tell(4, 2, 1), x -> x.undo(),
            x -> x.undo(), x -> x.redo(), x -> x.level(0, 3), x -> x.level(1, 3), x -> x.undo(), x -> x.level(0, 0),
            x -> x.image(), x -> x.player(3, 3, 4, 0), x -> x.tell(5, 2, 0), x -> x.tell(5, 0, 2), x -> x.back(),
            x -> x.tell(1, 3, 50)};
        Call[] asked = {x -> x.relaxed(0), x -> x.apart(25, 1), x -> x.stands(4, 7), x -> x.meets(1, 3, 2),
            x -> x.stands(3, 3), x -> x.apart(24, 2), x -> x.relaxed(0), x -> x.howMany()};
        BracketDraws x = Calls.with("c1r1s1;c1r2;c2r1s2;x1;x1");
        x.level(1, 1);
        for (int i = 0; i < changes.length; i++) {
            Check.holds("change " + i + " is not refused", changes[i].on(x) >= 0);
            for (int k = 0; k < asked.length; k++) {
                Check.due("count " + k + " behind change " + i, asked[k].on(x), asked[k].on(Calls.anew(x)));
            }
        }
    }

    private interface Call {
        long on(BracketDraws x);
    }

    /** Promises 9, 10, 11: "With no DRAW that is lawful" they are 0; with just one draw they tell of that one. */
    static void promises9To11WithOneDraw() {
        BracketDraws x = Calls.with("x1;s1");
        Check.due("howMany()", x.howMany(), 1);
        Check.due("stands(0, 1)", x.stands(0, 1), 1);
        Check.due("stands(0, 0)", x.stands(0, 0), 0);
        Check.due("stands(1, 0)", x.stands(1, 0), 1);
        Check.due("meets(0, 1, 1)", x.meets(0, 1, 1), 1);
        Check.due("apart(1, 1)", x.apart(1, 1), 1);
        Check.due("apart(3, 1)", x.apart(3, 1), 0);
        x = Calls.with("s1;x1;s3;s2");
        Check.due("stands(1, 1)", x.stands(1, 1), 1);
        Check.due("meets(1, 2, 2)", x.meets(1, 2, 2), 1);
        Check.due("apart(6, 1)", x.apart(6, 1), 1);
    }

    /** Promise 8: "n of them want L SLOTS: L is the least of 2, 4, 8, 16 that isn't below n" */
    static void promise8TheLeastThatIsNotBelow() {
        int[] slots = {2, 2, 2, 4, 4, 8, 8, 8, 8, 16, 16};
        for (int players = 0; players <= 10; players++) {
            BracketDraws x = Calls.plain(players);
            Check.due("the last slot of " + players, x.slot(slots[players] - 1), STATE);
            Check.due("one slot too many of " + players, x.slot(slots[players]), BAD);
            Check.due("count(1) of " + players, x.count(1), players < 2 ? 0 : slots[players]);
        }
    }

    /** Promise 8: "L - n of the SLOTS are BYES." "A DRAW: each PLAYER stands in a SLOT, no two in one" */
    static void promise8EachInASlotTheOthersAreByes() {
        for (int players = 2; players <= 10; players++) {
            BracketDraws x = Calls.plain(players);
            for (long number : new long[] {0, plainDraws(players) / 3, plainDraws(players) - 1}) {
                x.take(number);
                int[] standing = new int[11];
                for (int slot = 0; slot < x.count(1); slot++) {
                    standing[x.slot(slot)]++;
                }
                for (int player = 0; player < 10; player++) {
                    Check.due(player + " of " + players + " stands", standing[player], player < players ? 1 : 0);
                }
                Check.due("byes of " + players, standing[10], x.count(1) - players);
            }
        }
    }

    /**
     * Promise 8: "LEVELS, SEEDS' SLOTS are kept" "two PLAYERS of one CLUB stand in no BLOCK of a ROUND up to the LEVEL
     * of CLUBS (0: it doesn't matter)" Each level of 0 .. 4, among 4, 8 and 10 players.
     */
    static void promise8ClubsUpToTheLevel() {
        levels(0, "c5;c5");
    }

    /** Promise 8: "of REGIONS likewise." Each level of 0 .. 4, among 4, 8 and 10 players. */
    static void promise8RegionsUpToTheLevel() {
        levels(1, "r3;r3");
    }

    /** The first two must not stand in one block of a round up to the level; the others are of no group. */
    private static void levels(int what, String two) {
        for (int level = 0; level <= 4; level++) {
            BracketDraws four = Calls.with(two + ";x1;x1");
            four.level(0, 0);
            four.level(what, level);
            Check.due("of 4, level " + level, four.howMany(), level == 0 ? 24 : level == 1 ? 16 : 0);
            BracketDraws eight = Calls.with(two + ";x1;x1;x1;x1;x1;x1");
            eight.level(0, 0);
            eight.level(what, level);
            long left = level == 0 ? 7 : Math.max(0, 8 - (1 << level));
            Check.due("of 8, level " + level, eight.howMany(), 8 * left * 720);
            for (int round = 1; round <= 3; round++) {
                long due = round <= level || left == 0 ? 0 : 8 * (1 << round - 1) * 720;
                Check.due("of 8, level " + level + ", they meet in round " + round, eight.meets(0, 1, round), due);
            }
            BracketDraws ten = Calls.with(two + ";" + EIGHT);
            long allMeeting = ten.meets(0, 1, 4);
            ten.level(0, 0);
            ten.level(what, level);
            Check.due("of 10, level " + level, ten.meets(0, 1, 4), level == 4 ? 0 : allMeeting);
            Check.due("of 10, level " + level, ten.howMany() > 0 ? 1 : 0, level == 4 ? 0 : 1);
        }
    }

    /**
     * Promise 8: "CLUB (0 .. 5; 0: none), REGION (0 .. 3; 0: none)" Levels look at the same club, the same region
     * alone, and none is not one.
     */
    static void promise8NoneIsNoGroup() {
        for (String text : new String[] {"x1;x1", "c1;c2", "r1;r2", "c1r3;c5r1", "c0r0;c0r0", "c1;r1", "c3;r3"}) {
            BracketDraws x = Calls.with(text);
            x.level(0, 4);
            x.level(1, 4);
            Check.due("howMany() of " + text, x.howMany(), 2);
        }
        for (int value = 1; value <= 5; value++) {
            BracketDraws x = Calls.with("c" + value + ";c" + value);
            Check.due("howMany() of two of club " + value, x.howMany(), 0);
        }
        for (int value = 1; value <= 3; value++) {
            BracketDraws x = Calls.with("r" + value + ";r" + value);
            x.level(1, 1);
            Check.due("howMany() of two of region " + value, x.howMany(), 0);
        }
    }

    /**
     * Promise 8: "two PLAYERS of one CLUB stand in no BLOCK of a ROUND up to the LEVEL of CLUBS" Any two of three, of
     * four; clubs and regions at once, each at its own level.
     */
    static void promise8SeveralGroups() {
        Check.due("three of a club in 4", Calls.with("c1;c1;c1;x1").howMany(), 0);
        Check.due("three of a club in 8", Calls.with("c1;c1;c1;x1;x1;x1;x1;x1").howMany(), 8 * 6 * 4 * 120);
        Check.due("four of a club in 8", Calls.with("c1;c1;c1;c1;x1;x1;x1;x1").howMany(), 8 * 6 * 4 * 2 * 24);
        Check.due("five of a club in 8", Calls.with("c1;c1;c1;c1;c1;x1;x1;x1").howMany(), 0);
        BracketDraws x = Calls.with("c1r1;c1;r1;x1;x1;x1;x1;x1");
        x.level(1, 2);
        // player 1 not in the pair of 0, player 2 not in its half: 4 ways for 2, then 5 for 1
        Check.due("a club at level 1, a region at level 2", x.howMany(), 8 * 4 * 5 * 120);
    }

    /**
     * Promise 8: "CLUB (0 .. 5; 0: none), REGION (0 .. 3; 0: none)" Ten players of all five clubs and all three
     * regions: each group is kept apart, none is left out.
     */
    static void promise8AllClubsAndRegionsAtOnce() {
        int[] clubs = {1, 1, 2, 2, 3, 3, 4, 4, 5, 5};
        int[] regions = {1, 2, 2, 3, 3, 1, 1, 2, 2, 3};
        BracketDraws x = new BracketDraws();
        for (int player = 0; player < 10; player++) {
            x.player(clubs[player], regions[player], 0, 0);
        }
        x.level(0, 2);
        x.level(1, 1);
        Check.holds("there are draws", x.howMany() > 0);
        for (int player = 0; player < 10; player++) {
            for (int other = player + 1; other < 10; other++) {
                boolean club = clubs[player] == clubs[other];
                boolean region = regions[player] == regions[other];
                Check.due(player + " meets " + other + " in round 1", x.meets(player, other, 1) > 0 ? 1 : 0,
                        club || region ? 0 : 1);
                Check.due(player + " meets " + other + " in round 2", x.meets(player, other, 2) > 0 ? 1 : 0,
                        club ? 0 : 1);
            }
        }
    }

    /** Promise 8: "LEVELS above the last ROUND are as that one." */
    static void promise8LevelsAboveTheLastRound() {
        int[] lastRound = {1, 2, 3, 4};
        String[] texts = {"c1r1;c1r1", "c1r1;c1r1;x1", "c1r1;c1r1;x1;x1;x1", "c1r1;c1r1;x1;x1;x1;x1;x1;x1;x1"};
        for (int i = 0; i < texts.length; i++) {
            for (int what = 0; what < 2; what++) {
                BracketDraws x = Calls.with(texts[i]);
                x.level(0, 0);
                for (int level = lastRound[i]; level <= 4; level++) {
                    x.level(what, level);
                    Check.due(texts[i] + ", level " + level, x.howMany(), 0);
                }
                x.level(what, lastRound[i] - 1);
                Check.due(texts[i] + ", one less", x.howMany() > 0 ? 1 : 0, 1);
                x.tell(1, what, 0);
                x.level(what, 4);
                Check.due(texts[i] + ", but for the second", x.howMany() > 0 ? 1 : 0, 1);
            }
        }
    }

    /** Promise 8: "A PLAYER with a SEED up to L stands in the SLOT at whose place the SEED is in the row for L." */
    static void promise8ASeedUpToL() {
        Check.due("seed 2 of two", Calls.with("s2;x1").howMany(), 1);
        Check.due("seed 3 of two", Calls.with("s3;x1").howMany(), 2);
        Check.due("seed 4 of four", Calls.with("s4;x1;x1;x1").howMany(), 6);
        Check.due("seed 5 of four", Calls.with("s5;x1;x1;x1").howMany(), 24);
        Check.due("seed 8 of eight", Calls.with("s8;x1;x1;x1;x1;x1;x1;x1").howMany(), 5040);
        Check.due("seed 8 of ten", Calls.with("s8;x1;" + EIGHT).stands(0, 2), Calls.with("s8;x1;" + EIGHT).howMany());
        for (int player = 0; player < 5; player++) {
            BracketDraws five = Calls.plain(5);
            five.tell(player, 2, 8);
            Check.due("seed 8 of five, player " + player, five.howMany(), 3840 / 8);
            Check.due("seed 8 of five, player " + player, five.stands(player, 1), 3840 / 8);
            five.tell(4 - player, 2, 7);
            five.take(1);
            Check.due("slot of player " + (4 - player), five.where(4 - player), five.of(4 - player, 4));
        }
        Check.due("all four", Calls.with("s4;s3;s2;s1").howMany(), 1);
        Check.due("all eight", Calls.with("s8;s7;s6;s5;s4;s3;s2;s1").howMany(), 1);
    }

    /** Promise 8: "no BLOCK of ROUND 1 is BYES alone" Where most slots are byes: 3, 5 and 9 players. */
    static void promise8NoTwoByesInAPair() {
        for (int players : new int[] {3, 5, 6, 7, 9, 10}) {
            BracketDraws x = Calls.plain(players);
            long all = plainDraws(players);
            Check.due("howMany() of " + players, x.howMany(), all);
            for (int i = 0; i < 16; i++) {
                x.take(all * i / 16);
                for (int slot = 0; slot < x.count(1); slot += 2) {
                    boolean byes = x.slot(slot) == 10 && x.slot(slot + 1) == 10;
                    Check.due("two byes from slot " + slot + " on", byes ? 1 : 0, 0);
                }
            }
        }
    }

    /**
     * Promise 8: "across from each PLAYER whose SEED is not above how many BYES there are (in the other SLOT of its
     * BLOCK of ROUND 1) is a BYE." Just as many as byes, and one more.
     */
    static void promise8AByeAcrossFromTheSeeded() {
        // of 6 players in 8 slots: 2 byes; the one that is left has 3 pairs of two slots each
        Check.due("seed 1, 2 byes", Calls.with("s1;x1;x1;x1;x1;x1").howMany(), 6 * 120);
        Check.due("seed 2, 2 byes", Calls.with("s2;x1;x1;x1;x1;x1").howMany(), 6 * 120);
        Check.due("seed 3, 2 byes", Calls.with("s3;x1;x1;x1;x1;x1").howMany(), 17280 / 8);
        Check.due("seeds 1 and 2, 2 byes", Calls.with("s1;s2;x1;x1;x1;x1").howMany(), 24);
        Check.due("seeds 1 and 3, 2 byes", Calls.with("s1;s3;x1;x1;x1;x1").howMany(), 24 + 4 * 24);
        // of 7 players in 8 slots: 1 bye
        Check.due("seed 1, 1 bye", Calls.with("s1;x1;x1;x1;x1;x1;x1").howMany(), 720);
        Check.due("seed 2, 1 bye", Calls.with("s2;x1;x1;x1;x1;x1;x1").howMany(), 40320 / 8);
        // 5 players in 8 slots: 3 byes; whoever has a seed up to 3 meets nobody in round 1
        for (int seed = 1; seed <= 8; seed++) {
            BracketDraws five = Calls.plain(5);
            five.tell(2, 2, seed);
            for (int other = 0; other < 5; other++) {
                long meets = other == 2 ? 0 : five.meets(2, other, 1);
                Check.due("seed " + seed + " meets " + other, meets > 0 ? 1 : 0, seed > 3 && other != 2 ? 1 : 0);
            }
        }
        // no byes at all
        Check.due("seed 1, no bye", Calls.with("s1;x1;x1;x1").howMany(), 6);
        // 9 players in 16 slots: 7 byes
        BracketDraws x = Calls.with("s7;" + EIGHT);
        x.take(x.howMany() - 1);
        Check.due("across from seed 7", x.slot(x.where(0) ^ 1), 10);
        // two of nine have no bye across from them
        Check.due("seed 7 of 9", x.howMany(), plainDraws(9) / 16 / 9 * 7);
        Check.due("seed 8 of 9", Calls.with("s8;" + EIGHT).howMany(), plainDraws(9) / 16);
    }

    /** Promise 8: "it is none (a BYE across is asked of those that have one alone)." */
    static void promise8SeedZeroWantsNoBye() {
        Check.due("three of no seed, 1 bye", Calls.with("s0;s0;s0").howMany(), 24);
        Check.due("five of no seed, 3 byes", Calls.with("s0;s0;s0;s0;s0").howMany(), 3840);
        Check.due("one with, four without", Calls.with("s1;s0;s0;s0;s0").howMany(), 3 * 4 * 24);
    }

    /** Promises 8, 9, 10, 11, 25: "With no DRAW that is lawful howMany(), stands(), meets(), apart(), wins() are 0." */
    static void promises8To11And25WithNoDraw() {
        for (String text : new String[] {"c1;c1", "c1;c1;c1;x1", "s1;s4;x1", "c1;c1;c1;c1;c1;x1;x1;x1"}) {
            BracketDraws x = Calls.with(text);
            Check.due("howMany() of " + text, x.howMany(), 0);
            for (int player = 0; player < x.count(0); player++) {
                for (int slot = 0; slot < x.count(1); slot++) {
                    Check.due("stands() of " + text, x.stands(player, slot), 0);
                }
                Check.due("wins() of " + text, x.wins(player), 0);
            }
            for (int round = 1; round <= x.count(3); round++) {
                Check.due("meets() of " + text, x.meets(0, 1, round), 0);
                Check.due("apart() of none of " + text, x.apart(0, round), 0);
                Check.due("apart() of one of " + text, x.apart(1, round), 0);
                Check.due("apart() of two of " + text, x.apart(3, round), 0);
            }
        }
    }

    // ---- promise 9

    /**
     * Promise 9: "STANDS of a PLAYER and a SLOT: in how many DRAWS it stands there." "STANDS." From slot 0 to the last.
     */
    static void promise9FromTheFirstSlotToTheLast() {
        for (int players = 2; players <= 10; players++) {
            BracketDraws x = Calls.plain(players);
            long each = plainDraws(players) / x.count(1);
            for (int slot = 0; slot < x.count(1); slot++) {
                Check.due("stands(0, " + slot + ") of " + players, x.stands(0, slot), each);
                Check.due("stands() of the last of " + players, x.stands(players - 1, slot), each);
            }
        }
    }

    /**
     * Promise 9: "SEEDS' SLOTS are kept" In all draws a seeded player stands there, never elsewhere, and nobody else.
     */
    static void promise9SeededStandInTheirSlot() {
        BracketDraws x = Calls.with("s2;x1;x1;s1");
        long[][] due = {{0, 0, 2, 0}, {0, 1, 0, 1}, {0, 1, 0, 1}, {2, 0, 0, 0}};
        for (int player = 0; player < 4; player++) {
            for (int slot = 0; slot < 4; slot++) {
                Check.due("stands(" + player + ", " + slot + ")", x.stands(player, slot), due[player][slot]);
            }
        }
        x = Calls.with("s1;x1;x1");
        Check.due("where a bye has to be", x.stands(1, 1), 0);
        Check.due("where no bye can be", x.stands(1, 2), 1);
    }

    /** Promise 9: "BAD; STATE: fewer than 2 PLAYERS." BAD is ahead of STATE; slots of fewer than 2 are those of 2. */
    static void promise9Refused() {
        for (int players : new int[] {0, 1, 2, 5, 10}) {
            BracketDraws x = Calls.plain(players);
            for (int player : new int[] {-1, players, 10, MIN, MAX}) {
                Check.due("stands(" + player + ", 0) of " + players, x.stands(player, 0), BAD);
            }
            int slots = Math.max(2, x.count(1));
            for (int slot : new int[] {-1, slots, slots + 1, 16, MIN, MAX}) {
                Check.due("stands(0, " + slot + ") of " + players, x.stands(0, slot), BAD);
            }
        }
        Check.due("stands(0, 0) of one", Calls.plain(1).stands(0, 0), STATE);
        Check.due("stands(0, 1) of one", Calls.plain(1).stands(0, 1), STATE);
        Check.due("stands(1, 1) of two", Calls.plain(2).stands(1, 1), 1);
    }

    // ---- promise 10

    /**
     * Promise 10: "MEETS of two PLAYERS and a ROUND: in how many they meet in that ROUND at the soonest." "MEETS." From
     * round 1 to the last: twice as many of other slots each time, if there are no byes.
     */
    static void promise10FromTheFirstRoundToTheLast() {
        Check.due("meets(0, 1, 1) of 2", Calls.plain(2).meets(0, 1, 1), 2);
        BracketDraws four = Calls.plain(4);
        Check.due("meets(0, 3, 1) of 4", four.meets(0, 3, 1), 8);
        Check.due("meets(3, 0, 2) of 4", four.meets(3, 0, 2), 16);
        BracketDraws eight = Calls.plain(8);
        for (int round = 1; round <= 3; round++) {
            Check.due("meets(7, 0, " + round + ") of 8", eight.meets(7, 0, round), (40320 / 7) << (round - 1));
        }
        for (int players = 2; players <= 10; players++) {
            BracketDraws x = Calls.plain(players);
            long sum = 0;
            for (int round = 1; round <= x.count(3); round++) {
                sum += x.meets(0, players - 1, round);
            }
            Check.due("meets() in some round, of " + players, sum, plainDraws(players));
        }
    }

    /** Promise 10: "BAD (one and the same; ROUND not 1 .. the last one, too)" */
    static void promise10NoSuchPlayersNoSuchRound() {
        int[] last = {1, 1, 1, 2, 2, 3, 3, 3, 3, 4, 4};
        for (int players = 2; players <= 10; players++) {
            BracketDraws x = Calls.plain(players);
            for (int round : new int[] {-1, 0, last[players] + 1, 5, 32, 33, MIN, MIN + 1, MAX}) {
                Check.due("meets(0, 1, " + round + ") of " + players, x.meets(0, 1, round), BAD);
            }
            for (int other : new int[] {-1, 0, players, 32, MIN, MAX}) {
                Check.due("meets(0, " + other + ", 1) of " + players, x.meets(0, other, 1), BAD);
                Check.due("meets(" + other + ", 0, 1) of " + players, x.meets(other, 0, 1), BAD);
            }
            Check.due("meets() of the last two of " + players,
                    x.meets(players - 1, players - 2, last[players]) > 0 ? 1 : 0, 1);
        }
    }

    /** Promise 10: "BAD" is ahead of "STATE." Of fewer than 2 no two are there: all is BAD. */
    static void promise10FewerThanTwo() {
        Check.due("meets(0, 1, 1) of none", Calls.plain(0).meets(0, 1, 1), BAD);
        Check.due("meets(0, 1, 1) of one", Calls.plain(1).meets(0, 1, 1), BAD);
        Check.due("meets(0, 0, 1) of one", Calls.plain(1).meets(0, 0, 1), BAD);
    }

    // ---- promise 11

    /** Promise 11: "APART: in how many none of some PLAYERS (bits) stand in one BLOCK of a ROUND." "APART." */
    static void promise11NoTwoInOneBlock() {
        BracketDraws x = Calls.plain(8);
        long[] pairs = {1, 1, 6, 6 * 4, 6 * 4 * 2};
        int set = 0;
        for (int i = 1; i <= 4; i++) {
            set |= 1 << (8 - i);
            Check.due("apart() of " + i + " in pairs", x.apart(set, 1), 8 * pairs[i] * factorial(8 - i));
        }
        Check.due("apart() of 5 in 4 pairs", x.apart(set | 1, 1), 0);
        Check.due("apart() of 2 in halves", x.apart(3, 2), 8 * 4 * 720);
        Check.due("apart() of 3 in 2 halves", x.apart(7, 2), 0);
        Check.due("apart() of 2 in all", x.apart(3, 3), 0);
        Check.due("apart() of the first and the last", x.apart(129, 1), 8 * 6 * 720);
    }

    /**
     * Promise 11: "none of some PLAYERS (bits) stand in one BLOCK" Nobody or one alone: all draws; all players: none.
     */
    static void promise11NobodyOneAll() {
        for (int players = 2; players <= 10; players++) {
            BracketDraws x = Calls.plain(players);
            int last = x.count(3);
            Check.due("apart(0, 1) of " + players, x.apart(0, 1), plainDraws(players));
            Check.due("apart(0, last) of " + players, x.apart(0, last), plainDraws(players));
            Check.due("apart() of the last of " + players, x.apart(1 << (players - 1), last), plainDraws(players));
            Check.due("apart() of all " + players, x.apart((1 << players) - 1, last), 0);
        }
        // of three in two pairs two have to stand in one
        Check.due("apart(7, 1) of 3", Calls.plain(3).apart(7, 1), 0);
    }

    /** Promise 11: "BAD: a set below 0 or with such as there are not, a ROUND not 1 .. the last one" */
    static void promise11NoSuchSetNoSuchRound() {
        for (int players = 0; players <= 10; players++) {
            BracketDraws x = Calls.plain(players);
            for (int set : new int[] {-1, 1 << players, (1 << players) + 1, 1 << 10, 1 << 30, MIN, MIN + 1, MAX}) {
                Check.due("apart(" + set + ", 1) of " + players, x.apart(set, 1), BAD);
            }
            int last = Math.max(1, x.count(3));
            for (int round : new int[] {-1, 0, last + 1, 5, 33, MIN, MAX}) {
                Check.due("apart(0, " + round + ") of " + players, x.apart(0, round), BAD);
            }
            long all = x.apart((1 << players) - 1, last);
            Check.due("apart() of all " + players, all, players < 2 ? STATE : 0);
        }
    }

    /** Promise 11: "STATE." Fewer than 2 players; BAD is ahead of it. */
    static void promise11FewerThanTwo() {
        Check.due("apart(0, 1) of none", Calls.plain(0).apart(0, 1), STATE);
        Check.due("apart(1, 1) of none", Calls.plain(0).apart(1, 1), BAD);
        Check.due("apart(0, 2) of none", Calls.plain(0).apart(0, 2), BAD);
        Check.due("apart(1, 1) of one", Calls.plain(1).apart(1, 1), STATE);
        Check.due("apart(2, 1) of one", Calls.plain(1).apart(2, 1), BAD);
        Check.due("apart(1, 2) of one", Calls.plain(1).apart(1, 2), BAD);
        Check.due("apart(1, 1) of two", Calls.plain(2).apart(1, 1), 2);
    }
}
