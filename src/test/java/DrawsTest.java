/** Promises 8 to 19: how many draws, counted by halves and sets; the draw taken; protections relaxed. */
public final class DrawsTest {
    private static final int BAD = -1, NOT = -2, STATE = -5;
    private static final String[] OF_THREE = {"- 0 1 2", "- 0 2 1", "0 - 1 2", "0 - 2 1", "- 1 0 2", "- 1 2 0",
        "1 - 0 2", "1 - 2 0", "0 1 - 2", "0 1 2 -", "1 0 - 2", "1 0 2 -", "- 2 0 1", "- 2 1 0", "2 - 0 1", "2 - 1 0",
        "0 2 - 1", "0 2 1 -", "2 0 - 1", "2 0 1 -", "1 2 - 0", "1 2 0 -", "2 1 - 0", "2 1 0 -"};

    public static void main(String[] args) {
        howManyPlain();
        howManyWithSeeds();
        howManyWithLevels();
        levelsAboveTheLastRound();
        byesAcrossSeeds();
        stands();
        meets();
        apart();
        countsWithoutDraws();
        twoPlayersAreEnough();
        countsFollowEachChange();
        numbersInOrder();
        theFirstAndTheLastOfTen();
        takeRefused();
        drawn();
        slotAndWhere();
        swapped();
        soonest();
        relaxedStepByStep();
        relaxedDone();
        relaxedRefused();
        Check.end();
    }

    private static void howManyPlain() {
        long[] due = {STATE, STATE, 2, 24, 24, 3840, 17280, 40320, 40320, 371589120L, 6502809600L};
        for (int players = 0; players <= 10; players++) {
            Check.due("howMany() of " + players, Calls.plain(players).howMany(), due[players]);
        }
    }

    private static void howManyWithSeeds() {
        Check.due("two seeded", Calls.with("s2;s1").howMany(), 1);
        Check.due("one seeded", Calls.with("s2;x1").howMany(), 1);
        Check.due("a seed above L", Calls.with("s3;x1").howMany(), 2);
        Check.due("four seeded", Calls.with("s2;s1;s4;s3").howMany(), 1);
        Check.due("one of four seeded", Calls.with("s2;x1;x1;x1").howMany(), 6);
        Check.due("one of four with a seed above L", Calls.with("s5;x1;x1;x1").howMany(), 24);
        Check.due("seed 0", Calls.with("s0;s0;s0;s0").howMany(), 24);
        Check.due("eight seeded", Calls.with("s1;s2;s3;s4;s5;s6;s7;s8").howMany(), 1);
        // the two unseeded take one of 2 pairs' slots each, or both stand in one pair, and that cannot be
        Check.due("ten, eight seeded", Calls.with("s1;s2;s3;s4;s5;s6;s7;s8;x1;x2").howMany(), 2);
    }

    private static void howManyWithLevels() {
        BracketDraws x = Calls.with("c1;c1;x1;x1");
        Check.due("one club of two, level 1", x.howMany(), 16);
        x.level(0, 2);
        Check.due("one club of two, level 2", x.howMany(), 0);
        x.level(0, 0);
        Check.due("one club of two, level 0", x.howMany(), 24);
        x = Calls.with("r1;r1;x1;x1");
        Check.due("one region of two, level 0", x.howMany(), 24);
        x.level(1, 1);
        Check.due("one region of two, level 1", x.howMany(), 16);
        x.level(0, 0);
        Check.due("one region of two, level of clubs 0", x.howMany(), 16);
        x = Calls.with("c1;c2;c1;c2");
        Check.due("two clubs of two", x.howMany(), 16);
        x = Calls.with("c5r3;c5;r3;x1");
        x.level(1, 1);
        Check.due("a club and a region with one in common", x.howMany(), 8);
        x = Calls.with("c1;c1;c1;x1");
        Check.due("three of one club in two pairs", x.howMany(), 0);
        x = Calls.with("c1;c1;x1;x1;x1;x1;x1;x1");
        Check.due("one club of two in eight, level 1", x.howMany(), 8 * 6 * 720);
        x.level(0, 2);
        Check.due("one club of two in eight, level 2", x.howMany(), 8 * 4 * 720);
        x.tell(1, 0, 0);
        Check.due("no club of two any more", x.howMany(), 40320);
        x.undo();
        Check.due("a club of two again", x.howMany(), 8 * 4 * 720);
    }

    private static void levelsAboveTheLastRound() {
        for (int level = 1; level <= 4; level++) {
            BracketDraws x = Calls.with("c1;c1");
            x.level(0, level);
            Check.due("two of one club, level " + level, x.howMany(), 0);
            x = Calls.with("r2;x1;r2;x1");
            x.level(1, level);
            Check.due("four, two of one region, level " + level, x.howMany(), level == 1 ? 16 : 0);
            x = Calls.with("c1;c2;c3;x1;x2;x3");
            x.level(0, level);
            Check.due("six of no common club, level " + level, x.howMany(), 17280);
        }
    }

    private static void byesAcrossSeeds() {
        // one bye: across from seed 1 in slot 0 it stands in slot 1
        BracketDraws x = Calls.with("s1;x1;x1");
        Check.due("howMany()", x.howMany(), 2);
        x.take(0);
        Check.due("slot(1)", x.slot(1), 10);
        // seed 2 has no claim to the one bye: it goes where it likes, but for slot 2
        x = Calls.with("s2;x1;x1");
        Check.due("howMany() with seed 2", x.howMany(), 6);
        // two byes: seeds 1 and 2 have them both
        x = Calls.with("s1;s2;s3;x1;x1;x1");
        Check.due("howMany() of six", x.howMany(), 6);
        x.take(5);
        Check.due("slot(1)", x.slot(1), 10);
        Check.due("slot(5)", x.slot(5), 10);
        Check.due("slot(7)", x.slot(7) == 10 ? 1 : 0, 0);
        // seed 4 stands across from seed 1, who is to have a bye there
        Check.due("seed 4 where a bye is due", Calls.with("s1;s4;x1").howMany(), 0);
    }

    private static void stands() {
        BracketDraws x = Calls.with("s1;x1;x1");
        long[][] due = {{2, 0, 0, 0}, {0, 0, 1, 1}, {0, 0, 1, 1}};
        for (int player = 0; player < 3; player++) {
            for (int slot = 0; slot < 4; slot++) {
                Check.due("stands(" + player + ", " + slot + ")", x.stands(player, slot), due[player][slot]);
            }
        }
        for (int slot = 0; slot < 16; slot++) {
            Check.due("stands(7, " + slot + ") of ten", Calls.plain(10).stands(7, slot), 6502809600L / 16);
        }
        Check.due("stands(-1, 0)", x.stands(-1, 0), BAD);
        Check.due("stands(3, 0)", x.stands(3, 0), BAD);
        Check.due("stands(0, -1)", x.stands(0, -1), BAD);
        Check.due("stands(0, 4)", x.stands(0, 4), BAD);
        x = Calls.plain(1);
        Check.due("stands(0, 1) of one", x.stands(0, 1), STATE);
        Check.due("stands(0, 2) of one", x.stands(0, 2), BAD);
        Check.due("stands(1, 0) of one", x.stands(1, 0), BAD);
    }

    private static void meets() {
        BracketDraws x = Calls.plain(4);
        Check.due("meets(0, 1, 1)", x.meets(0, 1, 1), 8);
        Check.due("meets(3, 2, 2)", x.meets(3, 2, 2), 16);
        x = Calls.plain(8);
        Check.due("meets(0, 7, 1) of eight", x.meets(0, 7, 1), 40320 / 7);
        Check.due("meets(0, 7, 2) of eight", x.meets(0, 7, 2), 40320 / 7 * 2);
        Check.due("meets(0, 7, 3) of eight", x.meets(0, 7, 3), 40320 / 7 * 4);
        Check.due("meets(0, 7, 4) of eight", x.meets(0, 7, 4), BAD);
        Check.due("meets(0, 7, 0)", x.meets(0, 7, 0), BAD);
        Check.due("meets(2, 2, 1)", x.meets(2, 2, 1), BAD);
        Check.due("meets(0, 8, 1)", x.meets(0, 8, 1), BAD);
        Check.due("meets(-1, 0, 1)", x.meets(-1, 0, 1), BAD);
        Check.due("meets(0, 1, 1) of one", Calls.plain(1).meets(0, 1, 1), BAD);
        Check.due("meets(0, 0, 1) of one", Calls.plain(1).meets(0, 0, 1), BAD);
        x = Calls.plain(10);
        long sum = 0;
        for (int round = 1; round <= 4; round++) {
            sum += x.meets(3, 9, round);
        }
        Check.due("meets() in one round or another", sum, 6502809600L);
        // 2 pairs of two among 8: of the 45 pairs of players each is one of those 2 alike often
        Check.due("meets(3, 9, 1) of ten", x.meets(3, 9, 1), 6502809600L * 2 / 45);
    }

    private static void apart() {
        BracketDraws x = Calls.plain(4);
        Check.due("apart(3, 1)", x.apart(3, 1), 16);
        Check.due("apart(3, 2)", x.apart(3, 2), 0);
        Check.due("apart(7, 1)", x.apart(7, 1), 0);
        Check.due("apart(0, 2)", x.apart(0, 2), 24);
        Check.due("apart(8, 2)", x.apart(8, 2), 24);
        x = Calls.plain(8);
        Check.due("apart(15, 1) of eight", x.apart(15, 1), 8 * 6 * 4 * 2 * 24);
        Check.due("apart(31, 1) of eight", x.apart(31, 1), 0);
        Check.due("apart(129, 2) of eight", x.apart(129, 2), 8 * 4 * 720);
        Check.due("apart(256, 1)", x.apart(256, 1), BAD);
        Check.due("apart(-1, 1)", x.apart(-1, 1), BAD);
        Check.due("apart(3, 0)", x.apart(3, 0), BAD);
        Check.due("apart(3, 4)", x.apart(3, 4), BAD);
        Check.due("apart(0, 1) of none", new BracketDraws().apart(0, 1), STATE);
        Check.due("apart(1, 1) of one", Calls.plain(1).apart(1, 1), STATE);
        Check.due("apart(2, 1) of one", Calls.plain(1).apart(2, 1), BAD);
        Check.due("apart(0, 2) of one", Calls.plain(1).apart(0, 2), BAD);
        x = Calls.plain(10);
        Check.due("apart(1023, 1) of ten", x.apart(1023, 1), 0);
        Check.due("apart(513, 1) of ten", x.apart(513, 1), 6502809600L * 43 / 45);
    }

    private static void countsWithoutDraws() {
        BracketDraws x = Calls.with("c1;c1;c1;x1");
        Check.due("howMany()", x.howMany(), 0);
        Check.due("stands(3, 0)", x.stands(3, 0), 0);
        Check.due("meets(0, 3, 1)", x.meets(0, 3, 1), 0);
        Check.due("apart(0, 1)", x.apart(0, 1), 0);
        Check.due("wins(3)", x.wins(3), 0);
        Check.due("take(0)", x.take(0), NOT);
        Check.due("drawn(1)", x.drawn(1), NOT);
        Check.due("number()", x.number(), STATE);
        Check.due("count(8)", x.count(8), 0);
    }

    private static void twoPlayersAreEnough() {
        BracketDraws x = Calls.with("x10;x20");
        Check.due("howMany() of two", x.howMany(), 2);
        Check.due("stands(1, 0) of two", x.stands(1, 0), 1);
        Check.due("meets(1, 0, 1) of two", x.meets(1, 0, 1), 2);
        Check.due("apart(3, 1) of two", x.apart(3, 1), 0);
        Check.due("apart(2, 1) of two", x.apart(2, 1), 2);
        Check.due("wins(1) of two", x.wins(1), 2);
        Check.due("relaxed(0) of two", x.relaxed(0), 10);
        Check.due("drawn(7) of two", x.drawn(7), 1);
        Check.due("swapped(0, 1) of two", x.swapped(0, 1), 0);
        Check.due("soonest(0, 1) of two", x.soonest(0, 1), 1);
        x = Calls.with("s1;x20");
        Check.due("one draw alone", x.howMany(), 1);
        Check.due("stands(1, 1)", x.stands(1, 1), 1);
        Check.due("apart(1, 1)", x.apart(1, 1), 1);
        Check.due("drawn(9)", x.drawn(9), 0);
    }

    private static void countsFollowEachChange() {
        BracketDraws x = Calls.with("c1;c1;r1;r1");
        x.take(0);
        Check.due("howMany()", x.howMany(), 16);
        Check.due("relaxed(0)", x.relaxed(0), 10);
        x.level(0, 2);
        Check.due("howMany() with level 2", x.howMany(), 0);
        Check.due("relaxed(0) with level 2", x.relaxed(0), 10);
        x.undo();
        Check.due("swapped(0, 2) behind undo()", x.swapped(0, 2), 2);
        x.tell(1, 0, 2);
        Check.due("howMany(), another club", x.howMany(), 24);
        x.level(1, 1);
        Check.due("howMany(), regions apart", x.howMany(), 16);
        x.tell(3, 1, 0);
        Check.due("howMany(), no regions", x.howMany(), 24);
        x.tell(3, 2, 1);
        Check.due("howMany(), a seed", x.howMany(), 6);
        x.tell(3, 3, 50);
        Check.due("howMany(), a strength", x.howMany(), 6);
        x.image();
        x.player(0, 0, 0, 0);
        Check.due("howMany(), one more", x.howMany(), 4 * 3 * 2 * (2 * 2 * 3));
        x.back();
        Check.due("howMany() behind back()", x.howMany(), 6);
    }

    private static void numbersInOrder() {
        BracketDraws x = Calls.plain(3);
        for (int number = 0; number < OF_THREE.length; number++) {
            Check.due("take(" + number + ")", x.take(number), 1);
            Check.due("number()", x.number(), number);
            Check.due("draw " + number, Calls.printed(x), OF_THREE[number]);
        }
        x = Calls.plain(2);
        Check.due("take(0) of two", x.take(0), 0);
        Check.due("draw 0 of two", Calls.printed(x), "0 1");
        Check.due("take(1) of two", x.take(1), 0);
        Check.due("draw 1 of two", Calls.printed(x), "1 0");
        x = Calls.with("c1;c1;x1;x1");
        String[] first = {"0 2 1 3", "0 2 3 1", "2 0 1 3", "2 0 3 1", "1 2 0 3"};
        for (int number = 0; number < first.length; number++) {
            Check.due("take(" + number + ") of four", x.take(number), 0);
            Check.due("draw " + number + " of four", Calls.printed(x), first[number]);
        }
    }

    private static void theFirstAndTheLastOfTen() {
        BracketDraws x = Calls.plain(10);
        Check.due("take(0)", x.take(0), 6);
        Check.due("the first", Calls.printed(x), "- 0 - 1|- 2 - 3|- 4 - 5|6 7 8 9");
        Check.due("take() of the last", x.take(6502809599L), 6);
        Check.due("the last", Calls.printed(x), "9 8 7 6|5 - 4 -|3 - 2 -|1 - 0 -");
        Check.due("number()", x.number(), 6502809599L);
        Check.due("swapped(0, 1) of the last", x.swapped(0, 1), 6502809599L - 4);
        Check.due("take() behind the last", x.take(6502809600L), NOT);
        int[] before = null;
        for (long number = 6400000000L; number < 6400000060L; number++) {
            x.take(number);
            int[] draw = new int[16];
            for (int slot = 0; slot < 16; slot++) {
                draw[slot] = x.slot(slot);
            }
            Check.due("order of " + number, before == null ? -1 : AllDraws.compare(before, draw, 0, 16), -1);
            before = draw;
        }
    }

    private static void takeRefused() {
        BracketDraws x = Calls.plain(3);
        Check.due("take(23)", x.take(23), 1);
        Check.due("take(24)", x.take(24), NOT);
        Check.due("take(-1)", x.take(-1), NOT);
        Check.due("take(max)", x.take(Long.MAX_VALUE), NOT);
        Check.due("take(min)", x.take(Long.MIN_VALUE), NOT);
        Check.due("take(2 to the 32)", x.take(1L << 32), NOT);
        Check.due("number()", x.number(), 23);
        Check.due("count(8)", x.count(8), 1);
        Check.due("take(0) of none", new BracketDraws().take(0), STATE);
        Check.due("take(-1) of one", Calls.plain(1).take(-1), STATE);
        x.play();
        x.byHand(0);
        Check.due("take(23), the same again", x.take(23), 1);
        Check.due("count(4)", x.count(4), 0);
    }

    private static void drawn() {
        BracketDraws x = Calls.plain(3);
        int[] seeds = {0, 1, 7, -1, 12345, Integer.MAX_VALUE, Integer.MIN_VALUE, -1103515245};
        for (int z : seeds) {
            long mixed = Math.floorMod((long) z * 1103515245L + 12345L, 1L << 31);
            Check.due("drawn(" + z + ")", x.drawn(z), mixed / 256 % 24);
            Check.due("number()", x.number(), mixed / 256 % 24);
            Check.due("the draw", Calls.printed(x), OF_THREE[(int) (mixed / 256 % 24)]);
        }
        Check.due("drawn(0) of ten", Calls.plain(10).drawn(0), 48);
        Check.due("drawn(0) of one", Calls.plain(1).drawn(0), STATE);
        x.play();
        x.drawn(5);
        Check.due("count(4)", x.count(4), 0);
    }

    private static void slotAndWhere() {
        BracketDraws x = Calls.plain(3);
        Check.due("slot(0) without a draw", x.slot(0), STATE);
        Check.due("slot(4) without a draw", x.slot(4), BAD);
        Check.due("where(0) without a draw", x.where(0), STATE);
        Check.due("where(3) without a draw", x.where(3), BAD);
        Check.due("number() without a draw", x.number(), STATE);
        x.take(6);
        int[] due = {1, 10, 0, 2};
        for (int slot = 0; slot < 4; slot++) {
            Check.due("slot(" + slot + ")", x.slot(slot), due[slot]);
        }
        Check.due("where(0)", x.where(0), 2);
        Check.due("where(1)", x.where(1), 0);
        Check.due("where(2)", x.where(2), 3);
        Check.due("where(3)", x.where(3), BAD);
        Check.due("where(-1)", x.where(-1), BAD);
        Check.due("where(10)", x.where(10), BAD);
        Check.due("slot(4)", x.slot(4), BAD);
        Check.due("slot(-1)", x.slot(-1), BAD);
        Check.due("number()", x.number(), 6);
    }

    private static void swapped() {
        BracketDraws x = Calls.plain(3);
        Check.due("swapped(0, 1) without a draw", x.swapped(0, 1), STATE);
        Check.due("swapped(0, 0) without a draw", x.swapped(0, 0), BAD);
        x.take(2);
        Check.due("swapped(0, 1)", x.swapped(0, 1), 6);
        Check.due("swapped(2, 1)", x.swapped(2, 1), 3);
        Check.due("swapped(0, 2)", x.swapped(0, 2), 15);
        Check.due("number() is the same", x.number(), 2);
        Check.due("count(8)", x.count(8), 1);
        Check.due("swapped(0, 0)", x.swapped(0, 0), BAD);
        Check.due("swapped(0, 3)", x.swapped(0, 3), BAD);
        Check.due("swapped(-1, 1)", x.swapped(-1, 1), BAD);
        x = Calls.with("c1;c1;c2;c2");
        x.take(0);
        Check.due("swapped(0, 2), still lawful", x.swapped(0, 2), 2);
        Check.due("swapped(0, 3), one club in a pair", x.swapped(0, 3), NOT);
        x = Calls.with("s1;x1;x1;s2");
        x.take(0);
        Check.due("swapped(0, 1), a seed's slot", x.swapped(0, 1), NOT);
        Check.due("swapped(1, 2), no seed's slot", x.swapped(1, 2), 1);
    }

    private static void soonest() {
        BracketDraws x = Calls.plain(10);
        Check.due("soonest(0, 1) without a draw", x.soonest(0, 1), STATE);
        Check.due("soonest(1, 1) without a draw", x.soonest(1, 1), BAD);
        x.take(0);
        Check.due("soonest(6, 7)", x.soonest(6, 7), 1);
        Check.due("soonest(0, 1)", x.soonest(0, 1), 2);
        Check.due("soonest(1, 2)", x.soonest(1, 2), 3);
        Check.due("soonest(9, 4)", x.soonest(9, 4), 3);
        Check.due("soonest(3, 4)", x.soonest(3, 4), 4);
        Check.due("soonest(4, 4)", x.soonest(4, 4), BAD);
        Check.due("soonest(4, 10)", x.soonest(4, 10), BAD);
        Check.due("soonest(-1, 4)", x.soonest(-1, 4), BAD);
    }

    private static void relaxedStepByStep() {
        BracketDraws x = Calls.with("c1r1;c1;x1;r1");
        Check.due("nothing to relax", x.relaxed(0), 10);
        x.level(1, 4);
        Check.due("regions from 4 to 1", x.relaxed(0), 11);
        x.level(0, 4);
        Check.due("regions to 0, then clubs to 1", x.relaxed(0), 10);
        x = Calls.with("c1;c1;c1;x1");
        x.level(1, 3);
        Check.due("regions first, though they don't help", x.relaxed(0), 0);
        Check.due("count(5)", x.count(5), 1);
        Check.due("count(6)", x.count(6), 3);
        x = Calls.with("c1;c2;r1;r1;r1;r1;r1;r1");
        x.level(0, 4);
        x.level(1, 1);
        Check.due("regions alone", x.relaxed(0), 40);
        x.tell(7, 1, 0);
        x.tell(6, 1, 0);
        Check.due("a draw is there again", x.relaxed(0), 41);
    }

    private static void relaxedDone() {
        BracketDraws x = Calls.with("c1;c1;c1;x1");
        Check.due("relaxed(1)", x.relaxed(1), 0);
        Check.due("count(5)", x.count(5), 0);
        Check.due("count(8)", x.count(8), 1);
        Check.due("howMany()", x.howMany(), 24);
        Check.due("take(7)", x.take(7), 0);
        Check.due("relaxed(0)", x.relaxed(0), 0);
        Check.due("number() behind relaxed(0)", x.number(), 7);
        Check.due("count(8)", x.count(8), 2);
        Check.due("relaxed(1), nothing to be relaxed", x.relaxed(1), 0);
        Check.due("number() behind relaxed(1)", x.number(), STATE);
        Check.due("count(8)", x.count(8), 3);
        Check.due("undo()", x.undo(), 2);
        Check.due("number()", x.number(), 7);
        x.undo();
        Check.due("undo()", x.undo(), 0);
        Check.due("count(5)", x.count(5), 1);
        Check.due("howMany()", x.howMany(), 0);
        x = Calls.with("c1r2;c1r2;x1;x1");
        x.level(0, 1);
        x.level(1, 4);
        Check.due("relaxed(1), regions from 4", x.relaxed(1), 11);
        Check.due("count(5)", x.count(5), 1);
        Check.due("count(6)", x.count(6), 1);
        Check.due("howMany()", x.howMany(), 16);
    }

    private static void relaxedRefused() {
        BracketDraws x = Calls.with("s1;s4;x1");
        x.level(0, 3);
        x.level(1, 2);
        Check.due("relaxed(0), nothing helps", x.relaxed(0), NOT);
        Check.due("relaxed(1), nothing helps", x.relaxed(1), NOT);
        Check.due("count(5)", x.count(5), 3);
        Check.due("count(6)", x.count(6), 2);
        Check.due("count(8)", x.count(8), 2);
        Check.due("relaxed(2)", x.relaxed(2), BAD);
        Check.due("relaxed(-1)", x.relaxed(-1), BAD);
        Check.due("relaxed(0) of one", Calls.plain(1).relaxed(0), STATE);
        Check.due("relaxed(1) of none", Calls.plain(0).relaxed(1), STATE);
        Check.due("relaxed(2) of one", Calls.plain(1).relaxed(2), BAD);
    }
}
