/**
 * What is refused, of all promises: of several answers the first is given, and nothing is changed but the tape. Each
 * refused call is made on an object that has all there may be in its state; it must then go on just as its twin does,
 * on which the call was not made: what it tells, what may be done again and undone, what its tape and its image hold.
 */
public final class RefusalsEdgesTest {
    private static final int BAD = -1, NOT = -2, FULL = -3, STATE = -5;
    private static final int MIN = Integer.MIN_VALUE, MAX = Integer.MAX_VALUE;

    public static void main(String[] args) {
        Check.all(RefusalsEdgesTest.class);
    }

    private interface Call {
        long on(BracketDraws x);
    }

    private interface Made {
        BracketDraws make();
    }

    // ---- the states

    private static BracketDraws nobody() {
        BracketDraws x = new BracketDraws();
        x.image();
        x.level(0, 3);
        x.level(1, 2);
        x.undo();
        x.feed('c');
        return x;
    }

    private static BracketDraws one() {
        BracketDraws x = Calls.with("c1r2s1x9");
        x.image();
        x.tell(0, 3, 8);
        x.tell(0, 0, 4);
        x.undo();
        x.feed('c');
        return x;
    }

    /** Five, of whom two have seeds; a draw was taken, and that is undone. */
    private static BracketDraws withoutADraw() {
        BracketDraws x = Calls.with("c1r1s1x10;c2s2x5;c1x20;r1x30;x7");
        x.image();
        x.tell(4, 3, 8);
        x.take(3);
        x.undo();
        x.feed('c');
        return x;
    }

    /** Five in draw 0, round 1 played, one by hand in round 2; another one by hand is undone. */
    private static BracketDraws withADraw() {
        BracketDraws x = Calls.with("c1r1s1x10;c2s2x5;c1x20;r1x30;x7");
        x.take(1);
        x.image();
        x.take(0);
        x.play();
        x.byHand(0);
        x.tell(4, 3, 8);
        x.undo();
        x.feed('c');
        return x;
    }

    private static BracketDraws allPlayed() {
        BracketDraws x = Calls.with("c1s1x1;s2x2");
        x.image();
        x.take(0);
        x.byHand(0);
        x.play();
        x.tell(1, 3, 9);
        x.undo();
        x.feed('c');
        return x;
    }

    private static BracketDraws ten() {
        BracketDraws x = Calls.plain(10);
        x.tell(0, 2, 1);
        x.take(6);
        x.image();
        x.play();
        x.tell(9, 3, 1);
        x.undo();
        return x;
    }

    /** Seed 4 stands where a bye has to be: there is no draw, whatever is relaxed. */
    private static BracketDraws hopeless() {
        BracketDraws x = Calls.with("s1x1;s4x2;x3");
        x.image();
        x.level(0, 3);
        x.level(1, 2);
        x.tell(1, 3, 3);
        x.undo();
        x.feed('c');
        return x;
    }

    // ---- how they are compared

    /** Twice, as an object is good for 512 calls: once its changes are looked at, once its tape and its image. */
    private static void refused(Made made, String name, Call call, long due) {
        BracketDraws x = made.make();
        BracketDraws twin = made.make();
        Check.due(name, call.on(x), due);
        same(name, x, twin);
        while (twin.count(9) > 0) {
            Check.due("redo() behind " + name, x.redo(), twin.redo());
        }
        same(name + ", redo()", x, twin);
        while (twin.count(8) > 0) {
            Check.due("undo() behind " + name, x.undo(), twin.undo());
        }
        same(name + ", undo()", x, twin);
        x = made.make();
        twin = made.make();
        Check.due(name, call.on(x), due);
        Check.due("feed() behind " + name, x.feed('1'), twin.feed('1'));
        Check.due("players() behind " + name, x.players(), twin.players());
        same(name + ", players()", x, twin);
        Check.due("back() behind " + name, x.back(), twin.back());
        same(name + ", back()", x, twin);
    }

    private static void same(String name, BracketDraws x, BracketDraws twin) {
        Check.due("all behind " + name, Calls.state(x), Calls.state(twin));
        for (int what = 7; what <= 9; what++) {
            Check.due("count(" + what + ") behind " + name, x.count(what), twin.count(what));
        }
    }

    /** The calls that are BAD in each state, whatever else there is against them. */
    private static void badAheadOfAll(Made made, int players) {
        int slots = AllDraws.slotsFor(players);
        int rounds = Integer.numberOfTrailingZeros(slots);
        refused(made, "player() of club 6", x -> x.player(6, 0, 0, 0), BAD);
        refused(made, "player() of region -1", x -> x.player(0, -1, 0, 0), BAD);
        refused(made, "player() of seed 9", x -> x.player(0, 0, 9, 0), BAD);
        refused(made, "player() of strength 100", x -> x.player(0, 0, 0, 100), BAD);
        for (int player : new int[] {-1, players, 10, MIN, MAX}) {
            refused(made, "tell() of " + player, x -> x.tell(player, 3, 1), BAD);
            refused(made, "of() of " + player, x -> x.of(player, 4), BAD);
            refused(made, "stands() of " + player, x -> x.stands(player, 0), BAD);
            refused(made, "meets() of " + player, x -> x.meets(player, 0, 1), BAD);
            refused(made, "where() of " + player, x -> x.where(player), BAD);
            refused(made, "swapped() of " + player, x -> x.swapped(0, player), BAD);
            refused(made, "soonest() of " + player, x -> x.soonest(player, 0), BAD);
            refused(made, "byHand() of " + player, x -> x.byHand(player), BAD);
            refused(made, "met() of " + player, x -> x.met(player, 1), BAD);
            refused(made, "wins() of " + player, x -> x.wins(player), BAD);
        }
        for (int round : new int[] {-1, 0, rounds + 1, MIN, MAX}) {
            refused(made, "meets() in round " + round, x -> x.meets(0, 1, round), BAD);
            refused(made, "apart() in round " + round, x -> x.apart(0, round), BAD);
            refused(made, "through() of round " + round, x -> x.through(round, 0), BAD);
            refused(made, "met() in round " + round, x -> x.met(0, round), BAD);
        }
        refused(made, "level(2, 0)", x -> x.level(2, 0), BAD);
        refused(made, "level(0, 5)", x -> x.level(0, 5), BAD);
        refused(made, "stands(0, " + slots + ")", x -> x.stands(0, slots), BAD);
        refused(made, "slot(" + slots + ")", x -> x.slot(slots), BAD);
        refused(made, "slot(-1)", x -> x.slot(-1), BAD);
        refused(made, "apart(-1, 1)", x -> x.apart(-1, 1), BAD);
        refused(made, "apart() with one too many", x -> x.apart(1 << players, 1), BAD);
        refused(made, "swapped(0, 0)", x -> x.swapped(0, 0), BAD);
        refused(made, "soonest(0, 0)", x -> x.soonest(0, 0), BAD);
        refused(made, "relaxed(2)", x -> x.relaxed(2), BAD);
        refused(made, "relaxed(-1)", x -> x.relaxed(-1), BAD);
        refused(made, "through(1, -1)", x -> x.through(1, -1), BAD);
        refused(made, "through() of a block too many", x -> x.through(1, slots / 2), BAD);
        refused(made, "print(-2)", x -> x.print(-2), BAD);
        refused(made, "brackets(-2)", x -> x.brackets(-2), BAD);
        refused(made, "count(10)", x -> x.count(10), BAD);
        refused(made, "count(-1)", x -> x.count(-1), BAD);
        refused(made, "feed(31)", x -> x.feed(31), BAD);
        refused(made, "feed(127)", x -> x.feed(127), BAD);
    }

    /** The calls that want a draw to have been taken. */
    private static void stateWithoutADraw(Made made, int players) {
        refused(made, "slot(0)", x -> x.slot(0), STATE);
        refused(made, "slot(1)", x -> x.slot(1), STATE);
        refused(made, "number()", x -> x.number(), STATE);
        refused(made, "play()", x -> x.play(), STATE);
        refused(made, "through(1, 0)", x -> x.through(1, 0), STATE);
        refused(made, "winner()", x -> x.winner(), STATE);
        refused(made, "print(-1)", x -> x.print(-1), STATE);
        refused(made, "print(1000)", x -> x.print(1000), STATE);
        refused(made, "brackets(-1)", x -> x.brackets(-1), STATE);
        refused(made, "brackets(0)", x -> x.brackets(0), STATE);
        if (players > 0) {
            refused(made, "where(0)", x -> x.where(0), STATE);
            refused(made, "byHand(0)", x -> x.byHand(0), STATE);
            refused(made, "met(0, 1)", x -> x.met(0, 1), STATE);
        }
        if (players > 1) {
            refused(made, "swapped(0, 1)", x -> x.swapped(0, 1), STATE);
            refused(made, "soonest(0, 1)", x -> x.soonest(0, 1), STATE);
        }
    }

    /** The calls that want two players at least; the numbers of take() may be any. */
    private static void stateOfFewerThanTwo(Made made) {
        refused(made, "howMany()", x -> x.howMany(), STATE);
        refused(made, "apart(0, 1)", x -> x.apart(0, 1), STATE);
        refused(made, "take(0)", x -> x.take(0), STATE);
        refused(made, "take(-1)", x -> x.take(-1), STATE);
        refused(made, "take(max)", x -> x.take(Long.MAX_VALUE), STATE);
        refused(made, "drawn(0)", x -> x.drawn(0), STATE);
        refused(made, "relaxed(0)", x -> x.relaxed(0), STATE);
        refused(made, "relaxed(1)", x -> x.relaxed(1), STATE);
    }

    // ---- the tests

    /**
     * Promises 2 to 32: "Answers, of several the first as here: BAD (-1): no such number, or it is not as said; FULL
     * (-3); STATE (-5); NOT (-2)." So are the constants; BAD is ahead of all, with a draw and without, of nobody and
     * ten.
     */
    static void promises2To32BadAheadOfAll() {
        Check.due("BAD", BracketDraws.BAD, BAD);
        Check.due("FULL", BracketDraws.FULL, FULL);
        Check.due("STATE", BracketDraws.STATE, STATE);
        Check.due("NOT", BracketDraws.NOT, NOT);
        badAheadOfAll(RefusalsEdgesTest::nobody, 0);
        badAheadOfAll(RefusalsEdgesTest::one, 1);
        badAheadOfAll(RefusalsEdgesTest::withoutADraw, 5);
        badAheadOfAll(RefusalsEdgesTest::withADraw, 5);
        badAheadOfAll(RefusalsEdgesTest::allPlayed, 2);
        badAheadOfAll(RefusalsEdgesTest::ten, 10);
        badAheadOfAll(RefusalsEdgesTest::hopeless, 3);
    }

    /**
     * Promises 2 to 32: "What is answered so changes nothing, but THE TAPE, where it is said." Of fewer than two
     * players.
     */
    static void promises2To32OfFewerThanTwo() {
        stateOfFewerThanTwo(RefusalsEdgesTest::nobody);
        stateOfFewerThanTwo(RefusalsEdgesTest::one);
        stateWithoutADraw(RefusalsEdgesTest::nobody, 0);
        stateWithoutADraw(RefusalsEdgesTest::one, 1);
        refused(RefusalsEdgesTest::one, "stands(0, 1)", x -> x.stands(0, 1), STATE);
        refused(RefusalsEdgesTest::one, "wins(0)", x -> x.wins(0), STATE);
        refused(RefusalsEdgesTest::one, "player() with seed 1", x -> x.player(0, 0, 1, 0), BAD);
        refused(RefusalsEdgesTest::one, "of(0, 5)", x -> x.of(0, 5), BAD);
    }

    /**
     * Promises 3 to 27: "What is answered so changes nothing" Where no draw is taken, and where there is none to take.
     */
    static void promises3To27WithoutADraw() {
        stateWithoutADraw(RefusalsEdgesTest::withoutADraw, 5);
        stateWithoutADraw(RefusalsEdgesTest::hopeless, 3);
        refused(RefusalsEdgesTest::withoutADraw, "take(-1)", x -> x.take(-1), NOT);
        refused(RefusalsEdgesTest::withoutADraw, "take() behind the last", x -> x.take(x.howMany()), NOT);
        refused(RefusalsEdgesTest::withoutADraw, "of(2, 4)", x -> x.of(2, 4), NOT);
        refused(RefusalsEdgesTest::withoutADraw, "tell() of seed 1", x -> x.tell(1, 2, 1), BAD);
        refused(RefusalsEdgesTest::withoutADraw, "meets(0, 0, 1)", x -> x.meets(0, 0, 1), BAD);
        refused(RefusalsEdgesTest::hopeless, "take(0)", x -> x.take(0), NOT);
        refused(RefusalsEdgesTest::hopeless, "take(-1)", x -> x.take(-1), NOT);
        refused(RefusalsEdgesTest::hopeless, "drawn(5)", x -> x.drawn(5), NOT);
        refused(RefusalsEdgesTest::hopeless, "relaxed(0)", x -> x.relaxed(0), NOT);
        refused(RefusalsEdgesTest::hopeless, "relaxed(1)", x -> x.relaxed(1), NOT);
    }

    /**
     * Promises 2 to 31: "What is answered so changes nothing" Where a draw is taken, rounds are played, some by hand.
     */
    static void promises2To31WithADraw() {
        Made made = RefusalsEdgesTest::withADraw;
        refused(made, "player() with seed 2", x -> x.player(0, 0, 2, 0), BAD);
        refused(made, "tell() of seed 2", x -> x.tell(0, 2, 2), BAD);
        refused(made, "take(-1)", x -> x.take(-1), NOT);
        refused(made, "take() behind the last", x -> x.take(x.howMany()), NOT);
        refused(made, "swapped(0, 1), two seeds", x -> x.swapped(0, 1), NOT);
        refused(made, "byHand() of who is out", x -> x.byHand(out(x)), STATE);
        refused(made, "through(2, 0)", x -> x.through(2, 0), NOT);
        refused(made, "met(0, 2)", x -> x.met(0, 2), NOT);
        refused(made, "met() of who is out", x -> x.met(out(x), 2), NOT);
        refused(made, "print(15)", x -> x.print(15), NOT);
        refused(made, "brackets(8)", x -> x.brackets(8), NOT);
        refused(RefusalsEdgesTest::allPlayed, "play()", x -> x.play(), STATE);
        refused(RefusalsEdgesTest::allPlayed, "byHand(0)", x -> x.byHand(0), STATE);
        refused(RefusalsEdgesTest::allPlayed, "byHand(1)", x -> x.byHand(1), STATE);
        refused(RefusalsEdgesTest::allPlayed, "brackets(2)", x -> x.brackets(2), NOT);
    }

    /** Who lost in round 1. */
    private static int out(BracketDraws x) {
        for (int player = 0; player < x.count(0); player++) {
            int other = x.met(player, 1);
            if (other != 10 && x.through(1, x.where(player) / 2) == other) {
                return player;
            }
        }
        return BAD;
    }

    /**
     * Promises 2 to 25: "What is answered so changes nothing" Of ten players: FULL, but BAD is ahead of it; no wins.
     */
    static void promises2To25OfTen() {
        refused(RefusalsEdgesTest::ten, "an 11th", x -> x.player(0, 0, 0, 0), FULL);
        refused(RefusalsEdgesTest::ten, "an 11th with seed 1", x -> x.player(0, 0, 1, 0), BAD);
        refused(RefusalsEdgesTest::ten, "wins(9)", x -> x.wins(9), STATE);
        refused(RefusalsEdgesTest::ten, "players() of nothing", x -> x.players(), -100);
    }

    /** Promise 6: "What is answered so changes nothing" A byte that comes to a full tape, or may not come at all. */
    static void promise6OfAFullTape() {
        Made made = () -> {
            BracketDraws x = nobody();
            for (int bytes = 1; bytes < 120; bytes++) {
                x.feed('1');
            }
            return x;
        };
        refused(made, "feed('c')", x -> x.feed('c'), FULL);
        refused(made, "feed(31)", x -> x.feed(31), BAD);
        refused(made, "feed(127)", x -> x.feed(127), BAD);
    }

    /**
     * Promises 28, 29, 31: "What is answered so changes nothing" Nothing to undo, to be done again, to be laid back.
     */
    static void promises28To31WithNothingToGoBackTo() {
        Made plain = () -> Calls.with("s1x1;x2;x3");
        refused(plain, "undo()", x -> x.undo(), STATE);
        refused(plain, "redo()", x -> x.redo(), STATE);
        refused(plain, "back()", x -> x.back(), STATE);
        Made undone = () -> {
            BracketDraws x = Calls.with("s1x1;x2;x3");
            x.take(0);
            x.play();
            x.undo();
            x.undo();
            return x;
        };
        refused(undone, "undo(), all is undone", x -> x.undo(), STATE);
        refused(undone, "back(), two to be done again", x -> x.back(), STATE);
        Made done = () -> {
            BracketDraws x = Calls.with("s1x1;x2;x3");
            x.take(0);
            x.play();
            return x;
        };
        refused(done, "redo(), nothing is undone", x -> x.redo(), STATE);
        refused(done, "back(), two to be undone", x -> x.back(), STATE);
    }
}
