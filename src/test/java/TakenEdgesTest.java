/**
 * Promises 12 to 18 at their edges, sentence by sentence: the draw taken, by number or drawn; who stands where in it.
 */
public final class TakenEdgesTest {
    private static final int BAD = -1, NOT = -2, FULL = -3, STATE = -5;
    private static final int MIN = Integer.MIN_VALUE, MAX = Integer.MAX_VALUE;
    private static final long ALL_OF_TEN = 6502809600L;

    public static void main(String[] args) {
        Check.all(TakenEdgesTest.class);
    }

    private static void draws(String text, long[] numbers, String... due) {
        BracketDraws x = Calls.with(text);
        for (int i = 0; i < numbers.length; i++) {
            x.take(numbers[i]);
            Check.due("draw " + numbers[i] + " of " + text, Calls.printed(x), due[i]);
        }
    }

    // ---- promise 12

    /** Promise 12: "THE DRAW is that with a number: how many BYES." */
    static void promise12HowManyByes() {
        int[] byes = {0, 0, 0, 1, 0, 3, 2, 1, 0, 7, 6};
        for (int players = 2; players <= 10; players++) {
            BracketDraws x = Calls.plain(players);
            Check.due("take(1) of " + players, x.take(1), byes[players]);
            Check.due("number() of " + players, x.number(), 1);
        }
    }

    /**
     * Promise 12: "They are numbered from 0." The last is one less than how many there are. "NOT: there is none (below
     * 0, too)."
     */
    static void promise12FromZeroToTheLast() {
        for (int players = 2; players <= 10; players++) {
            BracketDraws x = Calls.plain(players);
            long all = x.howMany();
            Check.due("take(-1) of " + players, x.take(-1), NOT);
            Check.due("take() behind the last of " + players, x.take(all), NOT);
            Check.due("number() of " + players, x.number(), STATE);
            Check.due("take(0) of " + players, x.take(0), x.count(2));
            Check.due("take() of the last of " + players, x.take(all - 1), x.count(2));
            Check.due("take() behind the last of " + players, x.take(all), NOT);
            Check.due("number() of " + players, x.number(), all - 1);
        }
    }

    /** Promise 12: "NOT" of numbers far off, and of such as would be there were they cut to an int. */
    static void promise12NumbersFarOff() {
        BracketDraws x = Calls.plain(4);
        x.take(3);
        for (long number : new long[] {Long.MIN_VALUE, Long.MAX_VALUE, MIN, MAX, 1L << 32, (1L << 32) + 3, -1L << 32,
                (1L << 63) + 3, 24}) {
            Check.due("take(" + number + ")", x.take(number), NOT);
        }
        Check.due("number()", x.number(), 3);
        Check.due("count(8)", x.count(8), 1);
        BracketDraws ten = Calls.plain(10);
        Check.due("take() of one above the ints", ten.take(1L << 32), 6);
        Check.due("number()", ten.number(), 1L << 32);
    }

    /**
     * Promise 12: "STATE; NOT: there is none (below 0, too)." Fewer than 2 players are STATE, also below 0; no draw is
     * NOT.
     */
    static void promise12StateAheadOfNot() {
        for (int players = 0; players < 2; players++) {
            BracketDraws x = Calls.plain(players);
            Check.due("take(0) of " + players, x.take(0), STATE);
            Check.due("take(-1) of " + players, x.take(-1), STATE);
            Check.due("take(max) of " + players, x.take(Long.MAX_VALUE), STATE);
        }
        BracketDraws x = Calls.with("c1;c1");
        Check.due("take(0) where there is none", x.take(0), NOT);
        Check.due("number()", x.number(), STATE);
    }

    /** Promise 12: "DRAWS in order: of a BLOCK: by the set of PLAYERS in its first half as bits (the least first)" */
    static void promise12ByTheFirstHalfsSet() {
        draws("x1;x1;x1;x1", new long[] {0, 4, 8, 12, 16, 20},
                "0 1 2 3", "0 2 1 3", "1 2 0 3", "0 3 1 2", "1 3 0 2", "2 3 0 1");
        draws("x1;x1", new long[] {0, 1}, "0 1", "1 0");
        // a half with fewer players isn't the lesser one for that
        draws("x1;x1;x1", new long[] {3, 4, 7, 8, 11, 12, 15, 16, 20},
                "0 - 2 1", "- 1 0 2", "1 - 2 0", "0 1 - 2", "1 0 2 -", "- 2 0 1", "2 - 1 0", "0 2 - 1", "1 2 - 0");
    }

    /** Promise 12: "then by the first half's own order, then by the second half's." */
    static void promise12ThenByTheHalvesOwnOrder() {
        draws("x1;x1;x1;x1", new long[] {0, 1, 2, 3}, "0 1 2 3", "0 1 3 2", "1 0 2 3", "1 0 3 2");
        draws("x1;x1;x1;x1;x1;x1;x1;x1", new long[] {0, 1, 2, 3, 4, 8, 23, 24, 48, 575, 576, 40319}, "0 1 2 3|4 5 6 7",
                "0 1 2 3|4 5 7 6", "0 1 2 3|5 4 6 7", "0 1 2 3|5 4 7 6", "0 1 2 3|4 6 5 7", "0 1 2 3|5 6 4 7",
                "0 1 2 3|7 6 5 4", "0 1 3 2|4 5 6 7", "1 0 2 3|4 5 6 7", "3 2 1 0|7 6 5 4", "0 1 2 4|3 5 6 7",
                "7 6 5 4|3 2 1 0");
    }

    /**
     * Promise 12: "by the set of PLAYERS in its first half as bits (the least first)" Nobody is the least: a bye is
     * first.
     */
    static void promise12AByeComesFirst() {
        draws("x1;x1;x1", new long[] {0, 1, 2, 23}, "- 0 1 2", "- 0 2 1", "0 - 1 2", "2 1 0 -");
        BracketDraws x = Calls.plain(10);
        x.take(0);
        Check.due("the first of ten", Calls.printed(x), "- 0 - 1|- 2 - 3|- 4 - 5|6 7 8 9");
        x.take(ALL_OF_TEN - 1);
        Check.due("the last of ten", Calls.printed(x), "9 8 7 6|5 - 4 -|3 - 2 -|1 - 0 -");
    }

    /** Promises 12, 13: "As a DRAW is taken (also the same one again) no ROUND is played, nothing is BY HAND." */
    static void promises12And13NoRoundNothingByHand() {
        for (int again = 0; again < 4; again++) {
            BracketDraws x = Calls.with("x1;x2;x3;x4");
            long same = x.drawn(5);
            x.play();
            x.byHand(x.through(1, 0));
            x.play();
            x.undo();
            long number = again < 2 ? same : (same + 1) % 24;
            if (again % 2 == 0) {
                x.take(number);
            } else {
                Check.due("drawn(5)", x.drawn(5), same);
            }
            Check.due("count(4)", x.count(4), 0);
            Check.due("brackets(-1)", x.brackets(-1), 0);
            Check.due("through(1, 0)", x.through(1, 0), NOT);
            Check.due("met(0, 1)", x.met(0, 1), NOT);
            Check.due("play()", x.play(), 1);
            Check.due("winner()", x.winner(), 3);
        }
        BracketDraws x = Calls.with("x1;x2");
        x.take(0);
        x.byHand(0);
        x.take(0);
        Check.due("winner(), nothing by hand", x.winner(), 1);
    }

    // ---- promise 13

    /** What z has to be that it becomes so: 1103515245 has an inverse among the ints. */
    private static int becoming(int wanted) {
        int inverse = 1;
        for (int i = 0; i < 6; i++) {
            inverse *= 2 - 1103515245 * inverse;
        }
        return (wanted - 12345) * inverse;
    }

    private static void drawnFrom(BracketDraws x, int mixed, long due) {
        int z = becoming(mixed);
        Check.due("z becomes", z * 1103515245 + 12345, mixed);
        Check.due("drawn() of what becomes " + mixed, x.drawn(z), due);
        Check.due("number()", x.number(), due);
    }

    /** Promise 13: "DRAWN by a seed z: z becomes z times 1103515245 and 12345 (an int)" It wraps around. */
    static void promise13AnIntThatWrapsAround() {
        int[] seeds = {0, 1, -1, 2, -2, MAX, MIN, MAX - 1, MIN + 1, 65536, 12345};
        BracketDraws x = Calls.plain(10);
        for (int z : seeds) {
            long low = Math.floorMod((long) z * 1103515245L + 12345L, 1L << 31);
            Check.due("drawn(" + z + ")", x.drawn(z), low / 256);
            Check.due("number()", x.number(), low / 256);
        }
        Check.due("drawn(0)", x.drawn(0), 48);
        Check.due("drawn(1)", x.drawn(1), 4310654);
    }

    /** Promise 13: "z without its sign's bit, by 256, cut, modulo HOW MANY is the number." */
    static void promise13WithoutTheSignsBitBy256Cut() {
        BracketDraws x = Calls.plain(10);
        int[] becomes = {0, 1, 255, 256, 511, 512, MAX, MAX - 255, MAX - 256, MIN, MIN + 255, MIN + 256, -1, -256,
            -257};
        long[] due = {0, 0, 0, 1, 1, 2, 8388607, 8388607, 8388606, 0, 0, 1, 8388607, 8388607, 8388606};
        for (int i = 0; i < due.length; i++) {
            drawnFrom(x, becomes[i], due[i]);
        }
    }

    /** Promise 13: "modulo HOW MANY" The last number, and the first again. */
    static void promise13ModuloHowMany() {
        BracketDraws four = Calls.plain(4);
        drawnFrom(four, 23 * 256 + 255, 23);
        drawnFrom(four, 24 * 256, 0);
        drawnFrom(four, 25 * 256, 1);
        drawnFrom(four, MAX, 8388607 % 24);
        BracketDraws one = Calls.with("s1;x1");
        drawnFrom(one, 0, 0);
        drawnFrom(one, MAX, 0);
        drawnFrom(one, -1, 0);
    }

    /** Promise 13: "THE DRAW is DRAWN by z: its number." It is the same that take() of that number takes. */
    static void promise13ItIsTheDraw() {
        BracketDraws x = Calls.plain(5);
        long number = x.drawn(77);
        String drawn = Calls.printed(x);
        x.take(0);
        x.take(number);
        Check.due("taken", Calls.printed(x), drawn);
        Check.due("count(8)", x.count(8), 3);
    }

    /** Promise 13: "STATE; NOT: there is none." Fewer than 2 players are STATE, no draw is NOT. */
    static void promise13Refused() {
        for (int z : new int[] {0, 1, -1, MIN, MAX}) {
            Check.due("drawn() of none", Calls.plain(0).drawn(z), STATE);
            Check.due("drawn() of one", Calls.plain(1).drawn(z), STATE);
            BracketDraws x = Calls.with("c1;c1");
            Check.due("drawn() where there is none", x.drawn(z), NOT);
            Check.due("number()", x.number(), STATE);
            Check.due("count(8)", x.count(8), 0);
        }
    }

    // ---- promises 14 and 15

    /** Promise 14: "Who stands in a SLOT of THE DRAW (10: a BYE)." From slot 0 to the last. */
    static void promise14FromTheFirstSlotToTheLast() {
        BracketDraws x = Calls.plain(10);
        x.take(0);
        int[] due = {10, 0, 10, 1, 10, 2, 10, 3, 10, 4, 10, 5, 6, 7, 8, 9};
        for (int slot = 0; slot < 16; slot++) {
            Check.due("slot(" + slot + ")", x.slot(slot), due[slot]);
        }
        BracketDraws two = Calls.plain(2);
        two.take(1);
        Check.due("slot(0) of two", two.slot(0), 1);
        Check.due("slot(1) of two", two.slot(1), 0);
    }

    /**
     * Promises 8, 9, 11, 14, 22, 23: "With fewer than 2 PLAYERS L counts as 2 where a call asks whether a SLOT, a ROUND
     * is there, and in of() 4 (count() tells 0 of it)."
     */
    static void promisesWithFewerThanTwoPlayers() {
        for (int players = 0; players < 2; players++) {
            BracketDraws x = Calls.plain(players);
            Check.due("slot(1)", x.slot(1), STATE);
            Check.due("slot(2)", x.slot(2), BAD);
            Check.due("apart(0, 1)", x.apart(0, 1), STATE);
            Check.due("apart(0, 2)", x.apart(0, 2), BAD);
            Check.due("through(1, 0)", x.through(1, 0), STATE);
            Check.due("through(1, 1)", x.through(1, 1), BAD);
            Check.due("through(2, 0)", x.through(2, 0), BAD);
            Check.due("stands(0, 1)", x.stands(0, 1), players == 0 ? BAD : STATE);
            Check.due("stands(0, 2)", x.stands(0, 2), BAD);
            Check.due("met(0, 1)", x.met(0, 1), players == 0 ? BAD : STATE);
            Check.due("met(0, 2)", x.met(0, 2), BAD);
            for (int what = 1; what <= 3; what++) {
                Check.due("count(" + what + ")", x.count(what), 0);
            }
        }
    }

    /** Promise 14: "BAD; STATE: there is none." A slot that there is not is BAD, also without a draw. */
    static void promise14Refused() {
        for (int players = 0; players <= 10; players++) {
            BracketDraws x = Calls.plain(players);
            int slots = AllDraws.slotsFor(players);
            for (int i = 0; i < 2; i++) {
                for (int slot : new int[] {-1, slots, slots + 1, 16, 32, MIN, MAX}) {
                    Check.due("slot(" + slot + ") of " + players, x.slot(slot), BAD);
                }
                boolean taken = i == 1 && players > 1;
                Check.holds("slot(0) is STATE without a draw", (x.slot(0) == STATE) != taken);
                Check.holds("the last slot is STATE without a draw", (x.slot(slots - 1) == STATE) != taken);
                x.take(0);
            }
        }
    }

    /** Promise 15: "The SLOT of a PLAYER in THE DRAW." The first and the last of both. */
    static void promise15TheFirstAndTheLast() {
        BracketDraws x = Calls.plain(10);
        x.take(ALL_OF_TEN - 1);
        int[] due = {14, 12, 10, 8, 6, 4, 3, 2, 1, 0};
        for (int player = 0; player < 10; player++) {
            Check.due("where(" + player + ")", x.where(player), due[player]);
        }
        BracketDraws eight = Calls.plain(8);
        eight.take(40319);
        Check.due("where(0)", eight.where(0), 7);
        Check.due("where(7)", eight.where(7), 0);
    }

    /** Promise 15: "BAD; STATE." A player that there is not is BAD, also without a draw; 10, a bye, is none. */
    static void promise15Refused() {
        for (int players = 0; players <= 10; players++) {
            BracketDraws x = Calls.plain(players);
            for (int i = 0; i < 2; i++) {
                for (int player : new int[] {-1, players, 10, 11, MIN, MAX}) {
                    Check.due("where(" + player + ") of " + players, x.where(player), BAD);
                }
                boolean taken = i == 1 && players > 1;
                if (players > 0) {
                    Check.holds("where() is STATE without a draw", (x.where(players - 1) == STATE) != taken);
                }
                x.take(0);
            }
        }
    }

    // ---- promise 16

    /** Promise 16: "The number of THE DRAW." "THE DRAW is that which was taken last (none at first" "STATE." */
    static void promise16TheLatestTaken() {
        BracketDraws x = Calls.plain(10);
        Check.due("number() at first", x.number(), STATE);
        x.take(ALL_OF_TEN - 1);
        x.take(0);
        Check.due("number()", x.number(), 0);
        x.take(ALL_OF_TEN - 1);
        Check.due("number()", x.number(), ALL_OF_TEN - 1);
        x.take(ALL_OF_TEN);
        Check.due("number() behind a refused one", x.number(), ALL_OF_TEN - 1);
        x.drawn(0);
        Check.due("number() behind drawn()", x.number(), 48);
    }

    /** Promise 16: "none, as soon as a PLAYER comes" By player(), by a text. */
    static void promise16NoneAsAPlayerComes() {
        BracketDraws x = taken();
        x.player(0, 0, 0, 0);
        none(x);
        x = taken();
        Calls.texted(x, "c1");
        none(x);
    }

    /** Promise 16: "or a CLUB, REGION, SEED, LEVEL is told anew" Also if the same is told. */
    static void promise16NoneAsItIsToldAnew() {
        for (int what = 0; what < 3; what++) {
            for (int v = 0; v < 2; v++) {
                BracketDraws x = taken();
                x.tell(1, what, v);
                none(x);
            }
        }
        for (int level = 0; level < 5; level++) {
            BracketDraws x = taken();
            x.level(0, level);
            none(x);
            x = taken();
            x.level(1, level);
            none(x);
        }
    }

    /** Promise 16: "or RELAXED" If it is done; if nothing had to be relaxed, too. */
    static void promise16NoneAsItIsRelaxed() {
        BracketDraws x = taken();
        x.relaxed(0);
        Check.due("number() behind relaxed(0)", x.number(), 1);
        x.relaxed(1);
        none(x);
    }

    /** Promise 16: "by a call that is not refused)." Refused ones, and a strength told, leave the draw as it is. */
    static void promise16StaysBehindRefusedCalls() {
        BracketDraws x = Calls.with("s1;s2;x1;x1;x1;x1;x1;x1;x1");
        x.take(1);
        x.play();
        String before = Calls.state(x);
        Check.due("player() with seed 1", x.player(0, 0, 1, 0), BAD);
        Check.due("tell() of seed 2", x.tell(0, 2, 2), BAD);
        Check.due("tell() of club 6", x.tell(0, 0, 6), BAD);
        Check.due("tell() of region 4", x.tell(0, 1, 4), BAD);
        Check.due("level(0, 5)", x.level(0, 5), BAD);
        Check.due("level(1, -1)", x.level(1, -1), BAD);
        Check.due("relaxed(2)", x.relaxed(2), BAD);
        Check.due("players()", Calls.texted(x, "c1;c1"), -103);
        Check.due("take(-1)", x.take(-1), NOT);
        Check.due("all", Calls.state(x), before);
        x.tell(0, 3, 1);
        Check.due("number() behind a strength", x.number(), 1);
        Check.due("count(4) behind a strength", x.count(4), 1);
        x = Calls.plain(10);
        x.take(1);
        Check.due("an 11th", x.player(0, 0, 0, 0), FULL);
        Check.due("number()", x.number(), 1);
    }

    /** A draw of three, round 1 played: none has a club, a region, a seed. */
    private static BracketDraws taken() {
        BracketDraws x = Calls.plain(3);
        x.take(1);
        x.play();
        return x;
    }

    private static void none(BracketDraws x) {
        Check.due("number()", x.number(), STATE);
        Check.due("slot(0)", x.slot(0), STATE);
        Check.due("where(0)", x.where(0), STATE);
        Check.due("count(4)", x.count(4), 0);
        Check.due("play()", x.play(), STATE);
    }

    // ---- promise 17

    /**
     * Promise 17: "The number that the DRAW would have in which two PLAYERS of THE DRAW changed SLOTS." From 0 to the
     * last.
     */
    static void promise17FromTheFirstToTheLast() {
        BracketDraws two = Calls.plain(2);
        two.take(0);
        Check.due("swapped(0, 1) of draw 0", two.swapped(0, 1), 1);
        two.take(1);
        Check.due("swapped(1, 0) of draw 1", two.swapped(1, 0), 0);
        BracketDraws ten = Calls.plain(10);
        ten.take(ALL_OF_TEN - 5);
        Check.due("swapped(0, 1)", ten.swapped(0, 1), ALL_OF_TEN - 1);
        Check.due("number()", ten.number(), ALL_OF_TEN - 5);
        BracketDraws three = Calls.plain(3);
        for (int number = 0; number < 24; number++) {
            three.take(number);
            long swapped = three.swapped(0, 2);
            int[] slots = {three.where(2), three.where(1), three.where(0)};
            Check.due("swapped(2, 0)", three.swapped(2, 0), swapped);
            three.take(swapped);
            for (int player = 0; player < 3; player++) {
                Check.due("where(" + player + ")", three.where(player), slots[player]);
            }
        }
    }

    /**
     * Promise 17: "two PLAYERS of THE DRAW changed SLOTS" All twos in all draws of five, with seeds, a club and byes: in
     * the draw of that number just they stand otherwise, and changed again it is the first.
     */
    static void promise17ChangedAndChangedAgain() {
        for (int number = 0; number < 40; number++) {
            for (int two = 0; two < 20; two++) {
                int player = two / 4;
                int other = (player + 1 + two % 4) % 5;
                BracketDraws x = Calls.with("c1;s2;c1;x1;s5");
                Check.due("howMany()", x.howMany(), 40);
                x.take(number);
                String before = Calls.printed(x);
                String due = before.replace((char) ('0' + player), '#').replace((char) ('0' + other),
                        (char) ('0' + player)).replace('#', (char) ('0' + other));
                long swapped = x.swapped(player, other);
                if (swapped >= 0) {
                    x.take(swapped);
                    Check.due(before + ", " + player + " and " + other + " changed", Calls.printed(x), due);
                    Check.due("changed again", x.swapped(other, player), number);
                } else {
                    boolean seeded = player == 1 || player == 4 || other == 1 || other == 4;
                    Check.holds(due + " is no draw", seeded || samePair(due, '0', '2'));
                }
            }
        }
    }

    /** Whether two signs of a printed draw stand in one block of round 1. */
    private static boolean samePair(String printed, char one, char two) {
        return printed.indexOf(one) / 4 == printed.indexOf(two) / 4;
    }

    /** Promise 17: "NOT: it is none." For a club, for a region, for a seed's slot; asking changes nothing. */
    static void promise17ItIsNone() {
        BracketDraws x = Calls.with("c1r1;c1;r1;x1");
        x.take(0);
        Check.due("the draw", Calls.printed(x), "0 2 1 3");
        Check.due("swapped(1, 2), one club in a pair", x.swapped(1, 2), NOT);
        Check.due("swapped(2, 3), nothing against it", x.swapped(2, 3) >= 0 ? 1 : 0, 1);
        x.level(1, 1);
        x.take(0);
        Check.due("the draw", Calls.printed(x), "1 2 0 3");
        Check.due("swapped(2, 3), one region in a pair", x.swapped(2, 3), NOT);
        BracketDraws seeds = Calls.with("s1;x1;x1;x1");
        seeds.take(0);
        Check.due("swapped(0, 1), a seed's slot", seeds.swapped(0, 1), NOT);
        Check.due("swapped(3, 0), a seed's slot", seeds.swapped(3, 0), NOT);
        Check.due("number()", seeds.number(), 0);
        Check.due("count(8)", seeds.count(8), 1);
    }

    /**
     * Promise 17: "The number that the DRAW would have" Among the draws as they are by now, behind undo() and back().
     */
    static void promise17AmongTheDrawsOfNow() {
        BracketDraws x = Calls.plain(8);
        x.take(40319);
        x.image();
        x.level(0, 0);
        x.tell(0, 2, 1);
        Check.due("howMany()", x.howMany(), 5040);
        x.undo();
        x.undo();
        Check.due("swapped(0, 1) behind undo()", x.swapped(0, 1), 40318);
        x.player(0, 0, 0, 0);
        x.take(x.howMany() - 1);
        x.back();
        Check.due("swapped(0, 1) behind back()", x.swapped(0, 1), 40318);
        Check.due("swapped(6, 7) behind back()", x.swapped(6, 7), 40319 - 2 * 24);
    }

    /** Promise 17: "BAD (one and the same, too); STATE" Ahead of it BAD, without a draw, too. */
    static void promise17Refused() {
        twoPlayersRefused(BracketDraws::swapped);
    }

    // ---- promise 18

    /** Promise 18: "In which ROUND two PLAYERS of THE DRAW meet at the soonest." */
    static void promise18TheSoonest() {
        BracketDraws two = Calls.plain(2);
        two.take(0);
        Check.due("soonest(1, 0) of two", two.soonest(1, 0), 1);
        BracketDraws x = Calls.plain(10);
        x.take(0);
        int[] slots = {1, 3, 5, 7, 9, 11, 12, 13, 14, 15};
        for (int player = 0; player < 10; player++) {
            for (int other = 0; other < 10; other++) {
                if (player != other) {
                    Check.due("soonest(" + player + ", " + other + ")", x.soonest(player, other),
                            commonRound(slots[player], slots[other]));
                }
            }
        }
    }

    /**
     * Promise 18: "BLOCKS of ROUND r (0, 1, ..): 2 to the r SLOTS side by side, from SLOT 0 on; a BLOCK of ROUND 0 is a
     * SLOT, that of the last ROUND is all. Two PLAYERS meet in ROUND r at the soonest, if they stand in one BLOCK of
     * ROUND r, and in no smaller one." Neighbours on both sides of each border.
     */
    static void promise18NeighboursOverEachBorder() {
        BracketDraws x = Calls.plain(8);
        x.take(0);
        int[] due = {1, 2, 1, 3, 1, 2, 1};
        for (int slot = 0; slot < 7; slot++) {
            Check.due("slots " + slot + " and " + (slot + 1), x.soonest(slot, slot + 1), due[slot]);
        }
        Check.due("the first and the last", x.soonest(0, 7), 3);
        // seeds 1 .. 8 stand in slots 0, 8, 12, 4, 6, 14, 10, 2 of 16
        x = Calls.with("s1;s2;s3;s4;s5;s6;s7;s8;x1;x1");
        x.take(0);
        Check.due("slots 6 and 8", x.soonest(4, 1), 4);
        Check.due("slots 4 and 6", x.soonest(3, 4), 2);
        Check.due("slots 2 and 4", x.soonest(7, 3), 3);
        Check.due("slots 0 and 14", x.soonest(0, 5), 4);
    }

    private static int commonRound(int slot, int other) {
        int round = 0;
        for (int size = 1; slot / size != other / size; size *= 2) {
            round++;
        }
        return round;
    }

    /** Promise 18: "BAD (one and the same, too); STATE." Ahead of it BAD, without a draw, too. */
    static void promise18Refused() {
        twoPlayersRefused(BracketDraws::soonest);
    }

    private interface OfTwo {
        long of(BracketDraws x, int player, int other);
    }

    private static void twoPlayersRefused(OfTwo call) {
        for (int players = 0; players <= 10; players++) {
            BracketDraws x = Calls.plain(players);
            for (int i = 0; i < 2; i++) {
                for (int other : new int[] {-1, 0, players, 10, 11, MIN, MAX}) {
                    Check.due("of 0 and " + other, call.of(x, 0, other), BAD);
                    Check.due("of " + other + " and 0", call.of(x, other, 0), BAD);
                    Check.due("of twice " + other, call.of(x, other, other), BAD);
                }
                if (players > 1) {
                    Check.holds("STATE is without a draw", (call.of(x, 0, players - 1) == STATE) == (i == 0));
                }
                x.take(0);
            }
        }
    }
}
