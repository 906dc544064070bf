/** Promises 28 to 32 at their edges, sentence by sentence: changes undone, done again, the image, counts. */
public final class ChangesEdgesTest {
    private static final int BAD = -1, STATE = -5;
    private static final int MIN = Integer.MIN_VALUE, MAX = Integer.MAX_VALUE;

    private interface Call {
        long on(BracketDraws x);
    }

    /** Each kind of change, to something else and to the same, on what played() makes. */
    private static final String[] KINDS = {"CLUB", "REGION", "SEED", "STRENGTH", "the same CLUB", "the same REGION",
        "the same SEED", "the same STRENGTH", "LEVEL of CLUBS", "LEVEL of REGIONS", "the same LEVEL of CLUBS",
        "the same LEVEL of REGIONS", "THE DRAW taken", "the same DRAW taken", "THE DRAW drawn", "a ROUND played",
        "BY HAND", "the same BY HAND", "RELAXED"};
    private static final Call[] CHANGES = {x -> x.tell(0, 0, 3), x -> x.tell(0, 1, 3), x -> x.tell(0, 2, 2),
        x -> x.tell(0, 3, 99), x -> x.tell(0, 0, 1), x -> x.tell(0, 1, 1), x -> x.tell(0, 2, 1), x -> x.tell(0, 3, 10),
        x -> x.level(0, 2), x -> x.level(1, 2), x -> x.level(0, 1), x -> x.level(1, 0), x -> x.take(1), x -> x.take(0),
        x -> x.drawn(7), x -> x.play(), x -> x.byHand(3), x -> x.byHand(0), x -> x.relaxed(1)};

    public static void main(String[] args) {
        Check.all(ChangesEdgesTest.class);
    }

    /** Four of whom draw 0 is taken, round 1 is played, the weaker one is to win round 2 by hand: three changes. */
    private static BracketDraws played() {
        BracketDraws x = Calls.with("c1r1s1x10;x5;x20;x30");
        x.take(0);
        x.play();
        x.byHand(0);
        return x;
    }

    private static BracketDraws told(int times) {
        BracketDraws x = Calls.plain(2);
        for (int v = 1; v <= times; v++) {
            x.tell(0, 3, v);
        }
        return x;
    }

    // ---- promise 28

    /**
     * Promise 28: "CHANGES (CLUB, REGION, SEED, STRENGTH, LEVELS told, THE DRAW taken, a ROUND played, BY HAND, RELAXED
     * if done; telling the same is one, too;" "can be UNDONE" "THE DRAW, ROUNDS, BY HAND as ahead of it"
     */
    static void promise28EachKindIsOne() {
        for (int i = 0; i < CHANGES.length; i++) {
            BracketDraws x = played();
            String before = Calls.state(x);
            Check.holds(KINDS[i] + " is answered", CHANGES[i].on(x) >= 0);
            String behind = Calls.state(x);
            Check.due("count(8) behind " + KINDS[i], x.count(8), 4);
            Check.due("undo() of " + KINDS[i], x.undo(), 3);
            Check.due("all as ahead of " + KINDS[i], Calls.state(x), before);
            Check.due("redo() of " + KINDS[i], x.redo(), 0);
            Check.due("all as behind " + KINDS[i], Calls.state(x), behind);
            Check.due("count(8) behind " + KINDS[i], x.count(8), 4);
        }
    }

    /** Promise 28: "calls that are refused are none)" Nor are such as ask. */
    static void promise28RefusedAndAskingOnesAreNone() {
        Call[] none = {x -> x.player(6, 0, 0, 0), x -> x.tell(4, 0, 0), x -> x.tell(1, 2, 1), x -> x.level(2, 0),
            x -> x.take(24), x -> x.byHand(1), x -> x.relaxed(2), x -> x.players(), x -> x.relaxed(0), x -> x.of(0, 0),
            x -> x.feed('c'), x -> x.howMany(), x -> x.stands(0, 0), x -> x.meets(0, 1, 1), x -> x.apart(3, 1),
            x -> x.slot(0), x -> x.where(0), x -> x.number(), x -> x.swapped(1, 2), x -> x.soonest(0, 1),
            x -> x.through(1, 0), x -> x.met(0, 1), x -> x.winner(), x -> x.wins(0), x -> x.print(0),
            x -> x.brackets(0), x -> x.image(), x -> x.count(8)};
        for (int i = 0; i < none.length; i++) {
            BracketDraws x = played();
            x.tell(3, 3, 31);
            x.undo();
            String before = Calls.state(x);
            none[i].on(x);
            Check.due("count(8) behind call " + i, x.count(8), 3);
            Check.due("count(9) behind call " + i, x.count(9), 1);
            Check.due("all behind call " + i, Calls.state(x), before);
            Check.due("redo() behind call " + i, x.redo(), 0);
            Check.due("of(3, 3) behind call " + i, x.of(3, 3), 31);
        }
    }

    /** Promise 28: "the latest first" "UNDONE: how many may still be." */
    static void promise28TheLatestFirst() {
        BracketDraws x = Calls.with("x1;x2;x3;x4");
        x.tell(0, 0, 5);
        x.level(1, 4);
        x.take(0);
        x.play();
        Check.due("undo() of the round", x.undo(), 3);
        Check.due("count(4)", x.count(4), 0);
        Check.due("number()", x.number(), 0);
        Check.due("undo() of the draw", x.undo(), 2);
        Check.due("number()", x.number(), STATE);
        Check.due("count(6)", x.count(6), 4);
        Check.due("undo() of the level", x.undo(), 1);
        Check.due("count(6)", x.count(6), 0);
        Check.due("of(0, 0)", x.of(0, 0), 5);
        Check.due("undo() of the club", x.undo(), 0);
        Check.due("of(0, 0)", x.of(0, 0), 0);
    }

    /**
     * Promise 28: "THE DRAW, ROUNDS, BY HAND as ahead of it" What was by hand counts again when the round is played
     * anew.
     */
    static void promise28ByHandAsAheadOfIt() {
        BracketDraws x = played();
        int byHand = x.through(1, 0);
        x.play();
        Check.due("round 2", x.through(2, 0), byHand);
        x.undo();
        Check.due("winner()", x.winner(), byHand);
        x.play();
        Check.due("round 2 anew", x.through(2, 0), byHand);
        x.undo();
        x.undo();
        x.play();
        Check.due("round 2, by hand undone", x.through(2, 0), 3);
        x = played();
        x.level(0, 0);
        x.undo();
        x.play();
        Check.due("round 2 behind a draw that came again", x.through(2, 0), byHand);
    }

    /** Promise 28: "STATE: none." On a new object, when all are undone; nothing is changed then. */
    static void promise28None() {
        BracketDraws x = new BracketDraws();
        Check.due("undo() of a new object", x.undo(), STATE);
        x = played();
        for (int left = 2; left >= 0; left--) {
            Check.due("undo()", x.undo(), left);
        }
        String first = Calls.state(x);
        Check.due("undo(), none", x.undo(), STATE);
        Check.due("undo(), none", x.undo(), STATE);
        Check.due("all", Calls.state(x), first);
        Check.due("count(9)", x.count(9), 3);
    }

    /** Promise 28: "10 at most are kept" Of 9 all, of 10 all, of 11 and more the latest 10. */
    static void promise28TenAtMost() {
        for (int times = 1; times <= 33; times++) {
            BracketDraws x = told(times);
            int kept = Math.min(10, times);
            Check.due("count(8) of " + times, x.count(8), kept);
            for (int left = kept - 1; left >= 0; left--) {
                Check.due("undo() of " + times, x.undo(), left);
                Check.due("of(0, 3) of " + times, x.of(0, 3), times - kept + left);
            }
            Check.due("undo() of " + times + ", none", x.undo(), STATE);
            Check.due("of(0, 3) of " + times, x.of(0, 3), times - kept);
            Check.due("count(9) of " + times, x.count(9), kept);
        }
    }

    /** Promise 28: "10 at most are kept" Also if some were undone, and others came in their place. */
    static void promise28TenBehindUndoneOnes() {
        for (int undone = 1; undone <= 10; undone++) {
            BracketDraws x = told(12);
            for (int i = 0; i < undone; i++) {
                x.undo();
            }
            for (int more = 1; more <= undone + 2; more++) {
                x.tell(0, 3, 50 + more);
                Check.due("count(8)", x.count(8), Math.min(10, 10 - undone + more));
                Check.due("count(9)", x.count(9), 0);
            }
            for (int left = 9; left >= 0; left--) {
                Check.due("undo()", x.undo(), left);
            }
            // the two oldest of 12 have gone: of 2, 3, 4 .. as they were, and 51, 52 .. behind those not undone
            Check.due("of(0, 3)", x.of(0, 3), undone <= 8 ? 4 : undone + 42);
        }
    }

    /**
     * Promises 28, 29: "as soon as a PLAYER comes, there are none any more." By player(), by a text; not by a refused
     * one.
     */
    static void promises28And29NoneAsAPlayerComes() {
        for (int way = 0; way < 2; way++) {
            BracketDraws x = played();
            x.undo();
            Check.due("a refused player()", x.player(0, 0, 1, 0), BAD);
            Check.due("a text with a fault", Calls.texted(x, "c1;c9"), -104);
            Check.due("count(8)", x.count(8), 2);
            Check.due("count(9)", x.count(9), 1);
            if (way == 0) {
                x.player(0, 0, 0, 0);
            } else {
                Calls.texted(x, "x1");
            }
            Check.due("count(8)", x.count(8), 0);
            Check.due("count(9)", x.count(9), 0);
            Check.due("undo()", x.undo(), STATE);
            Check.due("redo()", x.redo(), STATE);
            Check.due("count(0)", x.count(0), 5);
            x.tell(4, 3, 7);
            Check.due("undo() of the next", x.undo(), 0);
            Check.due("count(0)", x.count(0), 5);
        }
    }

    // ---- promise 29

    /** Promise 29: "and DONE AGAIN" "DONE AGAIN: how many may still be." Ten of them, the first undone last. */
    static void promise29HowManyMayStillBe() {
        BracketDraws x = told(12);
        for (int i = 0; i < 10; i++) {
            x.undo();
        }
        for (int left = 9; left >= 0; left--) {
            Check.due("redo()", x.redo(), left);
            Check.due("of(0, 3)", x.of(0, 3), 12 - left);
            Check.due("count(8)", x.count(8), 10 - left);
        }
        Check.due("redo(), none", x.redo(), STATE);
        Check.due("of(0, 3)", x.of(0, 3), 12);
        Check.due("undo()", x.undo(), 9);
        Check.due("redo()", x.redo(), 0);
    }

    /** Promise 29: "(as long as no other came behind)" Each kind of change, also of the same, ends it. */
    static void promise29NoOtherCameBehind() {
        for (int i = 0; i < CHANGES.length; i++) {
            BracketDraws x = played();
            x.tell(3, 3, 31);
            x.tell(3, 3, 32);
            x.undo();
            x.undo();
            Check.due("count(9)", x.count(9), 2);
            CHANGES[i].on(x);
            String behind = Calls.state(x);
            Check.due("count(9) behind " + KINDS[i], x.count(9), 0);
            Check.due("redo() behind " + KINDS[i], x.redo(), STATE);
            Check.due("all behind " + KINDS[i], Calls.state(x), behind);
            Check.due("count(8) behind " + KINDS[i], x.count(8), 4);
        }
    }

    /** Promise 29: "STATE: none." Before any change, behind a change, when all are done again. */
    static void promise29None() {
        Check.due("redo() of a new object", new BracketDraws().redo(), STATE);
        BracketDraws x = played();
        Check.due("redo() behind a change", x.redo(), STATE);
        x.undo();
        Check.due("redo()", x.redo(), 0);
        String all = Calls.state(x);
        Check.due("redo(), none", x.redo(), STATE);
        Check.due("all", Calls.state(x), all);
        Check.due("count(8)", x.count(8), 3);
    }

    // ---- promise 30

    /** Promise 30: "AN IMAGE is kept: PLAYERS." Of none, of one, of ten. */
    static void promise30HowManyPlayers() {
        for (int players = 0; players <= 10; players++) {
            BracketDraws x = Calls.plain(players);
            Check.due("image() of " + players, x.image(), players);
            Check.due("back() of " + players, x.back(), players);
            Check.due("count(0) of " + players, x.count(0), players);
        }
    }

    /** Promise 30: "AN IMAGE is kept" It is the latest, and nothing that comes behind it changes it. */
    static void promise30TheLatest() {
        BracketDraws x = Calls.plain(2);
        x.image();
        x.player(1, 1, 1, 1);
        x.image();
        x.tell(2, 0, 5);
        x.player(0, 0, 0, 0);
        x.level(0, 4);
        Check.due("back()", x.back(), 3);
        Check.due("of(2, 0)", x.of(2, 0), 1);
        Check.due("count(5)", x.count(5), 1);
        x.tell(2, 0, 4);
        x.undo();
        x.redo();
        Check.due("back() again", x.back(), 3);
        Check.due("of(2, 0)", x.of(2, 0), 1);
    }

    /** Promises 30, 31: "AN IMAGE keeps all but THE TAPE and CHANGES." Players, levels, draw, rounds, by hand. */
    static void promises30And31AllButTheTapeAndChanges() {
        BracketDraws x = played();
        x.level(1, 0);
        x.undo();
        String kept = Calls.state(x);
        int byHand = x.through(1, 0);
        x.image();
        x.play();
        x.take(0);
        x.tell(0, 2, 0);
        x.level(0, 0);
        x.level(1, 3);
        x.player(5, 3, 8, 99);
        x.back();
        Check.due("all", Calls.state(x), kept);
        x.play();
        Check.due("by hand", x.through(2, 0), byHand);
        x.back();
        Check.due("all, once more", Calls.state(x), kept);
        BracketDraws none = new BracketDraws();
        none.image();
        Calls.texted(none, "s1x1;s2x2");
        none.take(0);
        none.back();
        Check.due("all of none", Calls.state(none), Calls.state(new BracketDraws()));
        Check.due("seed 1 is free", none.player(0, 0, 1, 0), 0);
    }

    /** Promises 30, 31: "but THE TAPE" It is neither kept nor laid back: it stays as it is. */
    static void promises30And31TheTapeStays() {
        BracketDraws x = new BracketDraws();
        x.feed('c');
        x.image();
        Check.due("count(7) behind image()", x.count(7), 1);
        x.feed('4');
        x.back();
        Check.due("count(7) behind back()", x.count(7), 2);
        Check.due("players()", x.players(), 1);
        x.back();
        Check.due("count(7) behind back(), empty", x.count(7), 0);
        Check.due("players(), empty", x.players(), -100);
    }

    /** Promise 30: "AN IMAGE is kept" That is no change: changes may be undone, done again behind it. */
    static void promise30IsNoChange() {
        BracketDraws x = told(3);
        x.undo();
        x.image();
        Check.due("count(8)", x.count(8), 2);
        Check.due("redo()", x.redo(), 0);
        Check.due("undo()", x.undo(), 2);
        Check.due("undo()", x.undo(), 1);
        x.back();
        Check.due("of(0, 3)", x.of(0, 3), 2);
    }

    // ---- promise 31

    /**
     * Promise 31: "It is laid back (there are no CHANGES then): PLAYERS." None that may be undone, none to be done
     * again.
     */
    static void promise31NoChangesThen() {
        BracketDraws x = told(3);
        x.image();
        x.undo();
        Check.due("back()", x.back(), 2);
        Check.due("count(8)", x.count(8), 0);
        Check.due("count(9)", x.count(9), 0);
        Check.due("undo()", x.undo(), STATE);
        Check.due("redo()", x.redo(), STATE);
        Check.due("of(0, 3)", x.of(0, 3), 3);
        x.tell(0, 3, 9);
        Check.due("undo()", x.undo(), 0);
        Check.due("of(0, 3), as laid back", x.of(0, 3), 3);
    }

    /** Promise 31: "STATE: there is none." Then it changes nothing. */
    static void promise31ThereIsNone() {
        Check.due("back() of a new object", new BracketDraws().back(), STATE);
        BracketDraws x = played();
        x.undo();
        String before = Calls.state(x);
        Check.due("back()", x.back(), STATE);
        Check.due("all", Calls.state(x), before);
        Check.due("count(8)", x.count(8), 2);
        Check.due("count(9)", x.count(9), 1);
    }

    // ---- promise 32

    /** Promise 32: "0 PLAYERS, 1 L, 2 BYES, 3 the last ROUND (1 to 3: 0, if there are fewer than 2 PLAYERS)" */
    static void promise32PlayersSlotsByesRounds() {
        int[] slots = {0, 0, 2, 4, 4, 8, 8, 8, 8, 16, 16};
        int[] rounds = {0, 0, 1, 2, 2, 3, 3, 3, 3, 4, 4};
        for (int players = 0; players <= 10; players++) {
            BracketDraws x = Calls.plain(players);
            Check.due("count(0)", x.count(0), players);
            Check.due("count(1) of " + players, x.count(1), slots[players]);
            Check.due("count(2) of " + players, x.count(2), players < 2 ? 0 : slots[players] - players);
            Check.due("count(3) of " + players, x.count(3), rounds[players]);
        }
    }

    /** Promise 32: "4 ROUNDS played" "count() 4 without THE DRAW: 0." */
    static void promise32RoundsPlayed() {
        BracketDraws x = Calls.plain(10);
        Check.due("count(4) without a draw", x.count(4), 0);
        x.take(0);
        for (int round = 0; round < 4; round++) {
            Check.due("count(4)", x.count(4), round);
            x.play();
        }
        Check.due("count(4), all played", x.count(4), 4);
        x.play();
        Check.due("count(4), all played", x.count(4), 4);
        x.undo();
        Check.due("count(4), one undone", x.count(4), 3);
        x.tell(0, 0, 0);
        Check.due("count(4), the draw is none any more", x.count(4), 0);
        x.undo();
        Check.due("count(4), the draw came again", x.count(4), 3);
        x.take(1);
        Check.due("count(4), taken anew", x.count(4), 0);
    }

    /** Promise 32: "5 LEVEL of CLUBS, 6 of REGIONS" From 0 to 4. */
    static void promise32Levels() {
        BracketDraws x = new BracketDraws();
        Check.due("count(5)", x.count(5), 1);
        Check.due("count(6)", x.count(6), 0);
        for (int v = 0; v <= 4; v++) {
            x.level(0, v);
            x.level(1, 4 - v);
            Check.due("count(5)", x.count(5), v);
            Check.due("count(6)", x.count(6), 4 - v);
        }
    }

    /** Promise 32: "7 bytes on THE TAPE, 8 CHANGES that may be UNDONE, 9 that may be DONE AGAIN." From none to all. */
    static void promise32BytesAndChanges() {
        BracketDraws x = told(11);
        for (int bytes = 0; bytes <= 120; bytes++) {
            Check.due("count(7)", x.count(7), bytes);
            x.feed('c');
        }
        Check.due("count(7), full", x.count(7), 120);
        for (int undone = 0; undone <= 10; undone++) {
            Check.due("count(8)", x.count(8), 10 - undone);
            Check.due("count(9)", x.count(9), undone);
            x.undo();
        }
        Check.due("count(8), none", x.count(8), 0);
        Check.due("count(9), all", x.count(9), 10);
    }

    /** Promise 32: "BAD." */
    static void promise32NoSuchWhat() {
        BracketDraws x = played();
        for (int what : new int[] {-1, 10, 11, 16, MIN, MAX}) {
            Check.due("count(" + what + ")", x.count(what), BAD);
        }
        Check.due("count(9), the last", x.count(9), 0);
    }
}
