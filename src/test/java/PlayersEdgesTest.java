/** Promises 1 to 5 at their edges, sentence by sentence: a new object, players, what is told of them, levels. */
public final class PlayersEdgesTest {
    private static final int BAD = -1, NOT = -2, FULL = -3, STATE = -5;
    private static final int MIN = Integer.MIN_VALUE, MAX = Integer.MAX_VALUE;

    public static void main(String[] args) {
        Check.all(PlayersEdgesTest.class);
    }

    // ---- promise 1

    /** Promise 1: "No PLAYERS." */
    static void promise1NoPlayers() {
        BracketDraws x = new BracketDraws();
        Check.due("count(0)", x.count(0), 0);
        Check.due("of(0, 0)", x.of(0, 0), BAD);
        Check.due("where(0)", x.where(0), BAD);
        Check.due("apart(1, 1)", x.apart(1, 1), BAD);
        Check.due("player()", x.player(0, 0, 0, 0), 0);
    }

    /** Promise 1: "1 and 0 at first" "none at first" But for the level of clubs there is nothing else either. */
    static void promise1NothingElse() {
        BracketDraws x = new BracketDraws();
        int[] due = {0, 0, 0, 0, 0, 1, 0, 0, 0, 0};
        for (int what = 0; what < due.length; what++) {
            Check.due("count(" + what + ")", x.count(what), due[what]);
        }
        Check.due("number()", x.number(), STATE);
        Check.due("undo()", x.undo(), STATE);
        Check.due("redo()", x.redo(), STATE);
        Check.due("back()", x.back(), STATE);
    }

    /** Promise 1: "All memory is the class's own." Two objects have nothing in common. */
    static void promise1EachObjectOfItsOwn() {
        BracketDraws x = Calls.with("c1s1x1;c1s2x2");
        x.level(0, 0);
        x.take(0);
        x.feed('c');
        x.image();
        BracketDraws other = new BracketDraws();
        Check.due("count(0)", other.count(0), 0);
        Check.due("count(5)", other.count(5), 1);
        Check.due("count(7)", other.count(7), 0);
        Check.due("back()", other.back(), STATE);
        other.player(0, 0, 1, 9);
        Check.due("count(0) of the first", x.count(0), 2);
        Check.due("number() of the first", x.number(), 0);
    }

    // ---- promise 2

    /** Promise 2: "PLAYERS 0 .. 9, as they come (10 at most)" "A PLAYER comes: the number." */
    static void promise2TheNumbersAre0To9() {
        BracketDraws x = new BracketDraws();
        for (int due = 0; due <= 9; due++) {
            Check.due("player()", x.player(due % 6, 0, 0, due), due);
            Check.due("count(0)", x.count(0), due + 1);
            Check.due("of(" + due + ", 3)", x.of(due, 3), due);
        }
    }

    /** Promise 2: "FULL." The 10th is the last that fits, the 11th the first that doesn't. */
    static void promise2TheEleventhIsFull() {
        BracketDraws x = Calls.plain(9);
        Check.due("the 10th", x.player(5, 3, 8, 99), 9);
        x.take(7);
        String before = Calls.state(x);
        Check.due("the 11th", x.player(0, 0, 0, 0), FULL);
        Check.due("the 12th", x.player(0, 0, 0, 0), FULL);
        Check.due("all", Calls.state(x), before);
        Check.due("count(8)", x.count(8), 1);
    }

    /** Promises 2, 3: "CLUB (0 .. 5; 0: none)" */
    static void promises2And3ClubsAre0To5() {
        range(0, 5);
    }

    /** Promises 2, 3: "REGION (0 .. 3; 0: none)" */
    static void promises2And3RegionsAre0To3() {
        range(1, 3);
    }

    /** Promises 2, 3: "SEED (0 .. 8; 0: none; no two have the same)" */
    static void promises2And3SeedsAre0To8() {
        range(2, 8);
    }

    /** Promises 2, 3: "STRENGTH (0 .. 99)." */
    static void promises2And3StrengthsAre0To99() {
        range(3, 99);
    }

    /** Least and greatest are taken, by player() and by tell(); what is beside them is BAD and changes nothing. */
    private static void range(int what, int most) {
        for (int v : new int[] {0, most}) {
            BracketDraws x = Calls.plain(1);
            Check.due("player() with " + v, coming(x, what, v), 1);
            Check.due("of(1, " + what + ")", x.of(1, what), v);
            Check.due("tell(1, " + what + ", 0)", x.tell(1, what, 0), v);
            Check.due("tell(0, " + what + ", " + v + ")", x.tell(0, what, v), 0);
            Check.due("of(0, " + what + ")", x.of(0, what), v);
        }
        for (int v : new int[] {-1, most + 1, MIN, MIN + 1, MAX, 1 << 16, 256}) {
            BracketDraws x = Calls.plain(1);
            x.tell(0, what, 1);
            Check.due("player() with " + v, coming(x, what, v), BAD);
            Check.due("count(0)", x.count(0), 1);
            Check.due("tell(0, " + what + ", " + v + ")", x.tell(0, what, v), BAD);
            Check.due("of(0, " + what + ")", x.of(0, what), 1);
        }
    }

    private static int coming(BracketDraws x, int what, int v) {
        return x.player(what == 0 ? v : 0, what == 1 ? v : 0, what == 2 ? v : 0, what == 3 ? v : 0);
    }

    /** Promise 2: "BAD (a SEED that another one has, too)" */
    static void promise2ASeedThatAnotherOneHas() {
        for (int seed = 1; seed <= 8; seed++) {
            BracketDraws x = Calls.plain(3);
            x.tell(1, 2, seed);
            Check.due("player() with seed " + seed, x.player(0, 0, seed, 0), BAD);
            Check.due("count(0)", x.count(0), 3);
            x.tell(1, 2, 0);
            Check.due("player(), free by now", x.player(0, 0, seed, 0), 3);
        }
    }

    /** Promise 2: "BAD (a SEED that another one has, too); FULL." Of both answers the first. */
    static void promise2BadAheadOfFull() {
        BracketDraws x = Calls.with("s1;x1;x1;x1;x1;x1;x1;x1;x1;x1");
        Check.due("club 6, the 11th", x.player(6, 0, 0, 0), BAD);
        Check.due("region 4, the 11th", x.player(0, 4, 0, 0), BAD);
        Check.due("seed 9, the 11th", x.player(0, 0, 9, 0), BAD);
        Check.due("strength 100, the 11th", x.player(0, 0, 0, 100), BAD);
        Check.due("seed 1 again, the 11th", x.player(0, 0, 1, 0), BAD);
        Check.due("seed 2, the 11th", x.player(0, 0, 2, 0), FULL);
    }

    /** Promises 2, 3: "SEED 0 may be told of several" */
    static void promises2And3SeedZeroOfSeveral() {
        BracketDraws x = Calls.with("s1;s0");
        Check.due("player() with seed 0", x.player(0, 0, 0, 0), 2);
        Check.due("player() with seed 0", x.player(0, 0, 0, 0), 3);
        Check.due("tell(0, 2, 0)", x.tell(0, 2, 0), 1);
        Check.due("tell(1, 2, 0)", x.tell(1, 2, 0), 0);
    }

    // ---- promise 3

    /** Promise 3: "Of a PLAYER CLUB (what 0), REGION (1), SEED (2), STRENGTH (3) becomes v: what it was." */
    static void promise3EachBecomesWhatIsTold() {
        int[] most = {5, 3, 8, 99};
        for (int what = 0; what < 4; what++) {
            BracketDraws x = Calls.with("c1r1s1x1;c2r2s2x2;c3r3s3x3");
            String before = Calls.state(x);
            Check.due("tell(1, " + what + ", most)", x.tell(1, what, most[what]), 2);
            for (int i = 0; i < 4; i++) {
                Check.due("of(1, " + i + ")", x.of(1, i), i == what ? most[what] : 2);
            }
            Check.due("tell(1, " + what + ", 2)", x.tell(1, what, 2), most[what]);
            Check.due("the others too", Calls.state(x), before);
            Check.due("tell(1, " + what + ", 2), the same", x.tell(1, what, 2), 2);
        }
    }

    /** Promise 3: "BAD" of a player that there is not: none, one too many, far off; of a what that there is not. */
    static void promise3NoSuchPlayerNoSuchWhat() {
        for (int players = 0; players <= 10; players += 5) {
            BracketDraws x = Calls.plain(players);
            for (int player : new int[] {-1, players, 10, MIN, MAX}) {
                Check.due("tell(" + player + ", 3, 1) of " + players, x.tell(player, 3, 1), BAD);
            }
            Check.due("count(8)", x.count(8), 0);
        }
        BracketDraws x = Calls.plain(10);
        for (int what : new int[] {-1, 4, 5, MIN, MAX}) {
            Check.due("tell(0, " + what + ", 0)", x.tell(0, what, 0), BAD);
        }
        Check.due("tell(9, 3, 1), the last", x.tell(9, 3, 1), 0);
        Check.due("count(8)", x.count(8), 1);
    }

    /** Promise 3: "BAD (a SEED that another one has, too)." Its own may be told again. */
    static void promise3ASeedThatAnotherOneHas() {
        BracketDraws x = Calls.with("s1;x1;s8");
        Check.due("tell(1, 2, 1)", x.tell(1, 2, 1), BAD);
        Check.due("tell(1, 2, 8)", x.tell(1, 2, 8), BAD);
        Check.due("tell(0, 2, 8)", x.tell(0, 2, 8), BAD);
        Check.due("tell(2, 2, 1)", x.tell(2, 2, 1), BAD);
        Check.due("count(8)", x.count(8), 0);
        Check.due("tell(0, 2, 1), its own", x.tell(0, 2, 1), 1);
        Check.due("tell(2, 2, 8), its own", x.tell(2, 2, 8), 8);
        Check.due("tell(2, 2, 7)", x.tell(2, 2, 7), 8);
        Check.due("tell(1, 2, 8), free by now", x.tell(1, 2, 8), 0);
        x.undo();
        x.undo();
        Check.due("tell(1, 2, 8), no more behind undo()", x.tell(1, 2, 8), BAD);
    }

    // ---- promise 4

    /** Promise 4: "That of a PLAYER" with all at their least and all at their greatest. */
    static void promise4ThatOfAPlayer() {
        BracketDraws x = Calls.with("c0r0s0x0;c5r3s8x99");
        int[] most = {5, 3, 8, 99};
        for (int what = 0; what < 4; what++) {
            Check.due("of(0, " + what + ")", x.of(0, what), 0);
            Check.due("of(1, " + what + ")", x.of(1, what), most[what]);
        }
    }

    /** Promise 4: "BAD." No such player, no such what; a what is looked at for a player of no seed, too. */
    static void promise4NoSuchPlayerNoSuchWhat() {
        for (int players = 0; players <= 10; players += 2) {
            BracketDraws x = Calls.plain(players);
            for (int player : new int[] {-1, players, 10, MIN, MAX}) {
                Check.due("of(" + player + ", 0) of " + players, x.of(player, 0), BAD);
                Check.due("of(" + player + ", 4) of " + players, x.of(player, 4), BAD);
            }
        }
        BracketDraws x = Calls.plain(1);
        for (int what : new int[] {-1, 5, 6, MIN, MAX}) {
            Check.due("of(0, " + what + ")", x.of(0, what), BAD);
        }
    }

    /** Promise 4: "4: its SEED's SLOT (NOT: none)." A player of no seed has none, however many there are. */
    static void promise4NoSeedNoSlot() {
        BracketDraws x = new BracketDraws();
        for (int players = 1; players <= 10; players++) {
            x.player(0, 0, 0, 0);
            Check.due("of(0, 4) of " + players, x.of(0, 4), NOT);
        }
    }

    /** Promise 4: "A SEED above L has no SLOT (of() 4: NOT)." A seed that is just L has one. */
    static void promise4ASeedAboveLHasNone() {
        int[][] playersAndSlots = {{2, 2}, {3, 4}, {4, 4}, {5, 8}, {8, 8}, {9, 16}};
        for (int[] one : playersAndSlots) {
            BracketDraws x = Calls.plain(one[0]);
            for (int seed = 1; seed <= 8; seed++) {
                x.tell(0, 2, seed);
                boolean none = x.of(0, 4) == NOT;
                Check.due("seed " + seed + " of " + one[0] + " has none", none ? 1 : 0, seed > one[1] ? 1 : 0);
            }
        }
    }

    /**
     * Promise 4: "SEEDS' SLOTS: a row for 1 SLOT is 1; for twice as many each number s of the row becomes two, s and
     * then the new L + 1 less s: 1 2; 1 4 2 3; 1 8 4 5 2 7 3 6; and so on."
     */
    static void promise4TheRows() {
        int[] playersFor = {2, 4, 8, 10};
        String[] rows = {"1 2", "1 4 2 3", "1 8 4 5 2 7 3 6", "1 16 8 9 4 13 5 12 2 15 7 10 3 14 6 11"};
        for (int i = 0; i < rows.length; i++) {
            BracketDraws x = Calls.plain(playersFor[i]);
            String[] row = rows[i].split(" ");
            for (int slot = 0; slot < row.length; slot++) {
                int seed = Integer.parseInt(row[slot]);
                if (seed <= 8) {
                    x.tell(1, 2, seed);
                    Check.due("slot of seed " + seed + " in " + rows[i], x.of(1, 4), slot);
                }
            }
        }
    }

    /**
     * Promise 4: "in the SLOT at whose place the SEED is in the row for L." It changes with the one who makes L
     * greater.
     */
    static void promise4TheRowGrowsWithThePlayers() {
        BracketDraws x = Calls.with("s2;s4");
        int[] seedTwo = {1, 2, 2, 4, 4, 4, 4, 8, 8};
        int[] seedFour = {NOT, 1, 1, 2, 2, 2, 2, 4, 4};
        for (int more = 0; more < seedTwo.length; more++) {
            Check.due("seed 2 of " + (2 + more), x.of(0, 4), seedTwo[more]);
            Check.due("seed 4 of " + (2 + more), x.of(1, 4), seedFour[more]);
            x.player(0, 0, 0, 0);
        }
    }

    /**
     * Promise 4: "With fewer than 2 PLAYERS L counts as 2 where a call asks" and in of() 4: seeds 1 and 2 have slots.
     */
    static void promise4OneAlone() {
        BracketDraws x = Calls.plain(1);
        int[] due = {NOT, 0, 1, NOT, NOT, NOT, NOT, NOT, NOT};
        for (int seed = 0; seed <= 8; seed++) {
            x.tell(0, 2, seed);
            Check.due("of(0, 4) with seed " + seed, x.of(0, 4), due[seed]);
        }
    }

    // ---- promise 5

    /** Promise 5: "LEVELS: of CLUBS, of REGIONS (0 .. 4; 1 and 0 at first)" */
    static void promise5OneAndZeroAtFirst() {
        for (int v = 0; v <= 4; v++) {
            Check.due("level(0, " + v + ")", new BracketDraws().level(0, v), 1);
            Check.due("level(1, " + v + ")", new BracketDraws().level(1, v), 0);
        }
        for (int v : new int[] {-1, 5, 6, MIN, MAX}) {
            BracketDraws x = new BracketDraws();
            Check.due("level(0, " + v + ")", x.level(0, v), BAD);
            Check.due("level(1, " + v + ")", x.level(1, v), BAD);
            Check.due("count(5)", x.count(5), 1);
            Check.due("count(6)", x.count(6), 0);
        }
    }

    /** Promise 5: "LEVEL of CLUBS (what 0), of REGIONS (1) becomes v: what it was." The other one stays. */
    static void promise5WhatItWas() {
        for (int what = 0; what < 2; what++) {
            BracketDraws x = new BracketDraws();
            x.level(0, 2);
            x.level(1, 2);
            int[] told = {4, 0, 3, 3, 1, 4};
            int before = 2;
            for (int v : told) {
                Check.due("level(" + what + ", " + v + ")", x.level(what, v), before);
                Check.due("it is", x.count(5 + what), v);
                Check.due("the other one", x.count(6 - what), 2);
                before = v;
            }
        }
    }

    /** Promise 5: "BAD." A what that there is not. */
    static void promise5NoSuchWhat() {
        BracketDraws x = new BracketDraws();
        for (int what : new int[] {-1, 2, 3, 4, MIN, MAX}) {
            Check.due("level(" + what + ", 1)", x.level(what, 1), BAD);
        }
        Check.due("count(8)", x.count(8), 0);
    }
}
