/** Promises 20 to 25 at their edges, sentence by sentence: rounds played, by hand, ways, the likely winner, wins. */
public final class RoundsEdgesTest {
    private static final int BAD = -1, NOT = -2, STATE = -5;
    private static final int MIN = Integer.MIN_VALUE, MAX = Integer.MAX_VALUE;
    private static final int[] LAST_ROUND = {1, 1, 1, 2, 2, 3, 3, 3, 3, 4, 4};

    public static void main(String[] args) {
        Check.all(RoundsEdgesTest.class);
    }

    /** Player and slot have the same number, the strongest one is the last. */
    private static BracketDraws eight() {
        BracketDraws x = Calls.with("x10;x20;x30;x40;x50;x60;x70;x80");
        x.take(0);
        return x;
    }

    private static BracketDraws taken(String text, long number) {
        BracketDraws x = Calls.with(text);
        x.take(number);
        return x;
    }

    // ---- promise 20

    /** Promise 20: "The next ROUND is played: its number." "ROUNDS are played one by one from 1 on" */
    static void promise20FromOneToTheLast() {
        for (int players = 2; players <= 10; players++) {
            BracketDraws x = Calls.plain(players);
            x.take(0);
            Check.due("count(4) of " + players, x.count(4), 0);
            for (int round = 1; round <= LAST_ROUND[players]; round++) {
                Check.due("play() of " + players, x.play(), round);
                Check.due("count(4) of " + players, x.count(4), round);
            }
            Check.due("play() of " + players + ", all are played", x.play(), STATE);
            Check.due("count(4) of " + players, x.count(4), LAST_ROUND[players]);
        }
    }

    /** Promise 20: "STATE: no DRAW, or all are played." */
    static void promise20NoDrawOrAllPlayed() {
        for (int players = 0; players <= 10; players++) {
            Check.due("play() of " + players + " without a draw", Calls.plain(players).play(), STATE);
        }
        BracketDraws x = taken("x1;x2", 0);
        x.play();
        Check.due("play(), all are played", x.play(), STATE);
        Check.due("count(8)", x.count(8), 2);
        x.tell(0, 3, 50);
        Check.due("play(), all are played still", x.play(), STATE);
        x.undo();
        x.undo();
        x.tell(0, 3, 50);
        Check.due("play(), one is undone", x.play(), 1);
        Check.due("through(1, 0)", x.through(1, 0), 0);
        x.level(0, 1);
        Check.due("play(), the draw is none any more", x.play(), STATE);
    }

    /** Promise 20: "in each BLOCK of that ROUND the two that came through from its halves meet" */
    static void promise20TheTwoFromTheHalves() {
        BracketDraws x = eight();
        x.play();
        Check.due("round 1", Calls.brackets(x), "1,3,5,7;");
        Check.due("met(0, 1)", x.met(0, 1), 1);
        Check.due("met(6, 1)", x.met(6, 1), 7);
        x.play();
        Check.due("round 2", Calls.brackets(x), "1,3,5,7;3,7;");
        Check.due("met(1, 2)", x.met(1, 2), 3);
        x.play();
        Check.due("round 3", Calls.brackets(x), "1,3,5,7;3,7;7;");
        Check.due("met(3, 3)", x.met(3, 3), 7);
    }

    /** Promise 20: "that with more STRENGTH" comes through: one more is enough, at 0 and at 99, on both sides. */
    static void promise20MoreStrength() {
        int[][] strengths = {{0, 1}, {98, 99}, {9, 10}, {0, 99}};
        for (int[] two : strengths) {
            for (int number = 0; number < 2; number++) {
                BracketDraws x = taken("x" + two[0] + ";x" + two[1], number);
                x.play();
                Check.due("the stronger is the later one", x.through(1, 0), 1);
                x = taken("x" + two[1] + ";x" + two[0], number);
                x.play();
                Check.due("the stronger is the earlier one", x.through(1, 0), 0);
            }
        }
    }

    /**
     * Promise 20: "(as it is then) comes through" As it is when the round is played: told before, told behind, told
     * back.
     */
    static void promise20StrengthAsItIsThen() {
        BracketDraws x = taken("x10;x20;x30;x40", 0);
        x.tell(0, 3, 21);
        x.play();
        Check.due("round 1", Calls.brackets(x), "0,3;");
        x.tell(0, 3, 0);
        x.tell(2, 3, 99);
        Check.due("round 1 stays", Calls.brackets(x), "0,3;");
        x.tell(3, 3, 0);
        x.play();
        Check.due("round 2, both 0: the lesser number", Calls.brackets(x), "0,3;0;");
        x.tell(3, 3, 99);
        Check.due("round 2 stays", Calls.brackets(x), "0,3;0;");
        x.undo();
        x.undo();
        x.tell(3, 3, 1);
        x.play();
        Check.due("round 2 anew", Calls.brackets(x), "0,3;3;");
    }

    /** Promise 20: "of like ones the lesser number" On whatever side it stands, of 0 and of 99. */
    static void promise20OfLikeOnesTheLesserNumber() {
        for (String strength : new String[] {"x0", "x50", "x99"}) {
            for (int number = 0; number < 2; number++) {
                BracketDraws x = taken(strength + ";" + strength, number);
                x.play();
                Check.due("through(1, 0), " + strength, x.through(1, 0), 0);
            }
        }
        BracketDraws ten = Calls.plain(10);
        ten.take(6502809599L);
        for (int round = 1; round <= 4; round++) {
            ten.play();
        }
        Check.due("all of ten", Calls.brackets(ten), "8,6,5,4,3,2,1,0;6,4,2,0;4,0;0;");
    }

    /** Promise 20: "a PLAYER across from a BYE comes through." Of strength 0 too, on both sides of the bye. */
    static void promise20AcrossFromABye() {
        BracketDraws x = taken("x0;x1;x2", 0);
        Check.due("the draw", Calls.printed(x), "- 0 1 2");
        x.play();
        Check.due("round 1", Calls.brackets(x), "0,2;");
        x = taken("x0;x1;x2", 3);
        Check.due("the draw", Calls.printed(x), "0 - 2 1");
        x.play();
        Check.due("round 1", Calls.brackets(x), "0,2;");
        BracketDraws ten = Calls.plain(10);
        ten.take(0);
        ten.play();
        Check.due("round 1 of ten", Calls.brackets(ten), "0,1,2,3,4,5,6,8;");
    }

    // ---- promise 21

    /**
     * Promise 21: "BY HAND a PLAYER comes through in the next ROUND: whom it would meet in it as it stands (10: a
     * BYE)."
     */
    static void promise21WhomItWouldMeet() {
        BracketDraws x = eight();
        Check.due("byHand(0)", x.byHand(0), 1);
        Check.due("byHand(7)", x.byHand(7), 6);
        x.play();
        Check.due("byHand(0), round 2", x.byHand(0), 3);
        Check.due("byHand(3), round 2", x.byHand(3), 0);
        Check.due("byHand(7), round 2", x.byHand(7), 5);
        x.play();
        Check.due("byHand(7), round 3", x.byHand(7), 3);
        x = taken("x0;x1;x2", 0);
        Check.due("byHand(0), a bye", x.byHand(0), 10);
        Check.due("byHand(1), no bye", x.byHand(1), 2);
        x.play();
        Check.due("byHand(0), no bye in round 2", x.byHand(0), 1);
    }

    /** Promise 21: "BY HAND: a PLAYER comes through in the ROUND that is to be played next, whatever their STRENGTH" */
    static void promise21WhateverTheirStrength() {
        BracketDraws x = taken("x0;x99", 0);
        x.byHand(0);
        Check.due("nothing is played yet", x.count(4), 0);
        x.tell(1, 3, 99);
        x.tell(0, 3, 0);
        x.play();
        Check.due("through(1, 0)", x.through(1, 0), 0);
        x = taken("x5;x5", 0);
        x.byHand(1);
        x.play();
        Check.due("through(1, 0), of like ones the greater number", x.through(1, 0), 1);
        x = taken("x0;x99", 0);
        x.byHand(1);
        x.play();
        Check.due("through(1, 0), the stronger by hand", x.through(1, 0), 1);
    }

    /** Promise 21: "in the ROUND that is to be played next" Not in a later one, and not once it is undone. */
    static void promise21TheNextRoundAlone() {
        BracketDraws x = eight();
        x.byHand(0);
        x.play();
        Check.due("round 1", Calls.brackets(x), "0,3,5,7;");
        x.play();
        Check.due("round 2 by strength", Calls.brackets(x), "0,3,5,7;3,7;");
        x = eight();
        x.play();
        x.byHand(1);
        x.play();
        x.undo();
        x.undo();
        x.undo();
        x.play();
        Check.due("round 1 by strength", Calls.brackets(x), "1,3,5,7;");
        x.play();
        Check.due("round 2, nothing is by hand any more", Calls.brackets(x), "1,3,5,7;3,7;");
    }

    /**
     * Promise 21: "(the latest that is told for a meeting counts; told before that ROUND is played)." "byHand(): of two
     * in one meeting the latest told." Of other meetings each counts.
     */
    static void promise21TheLatestTold() {
        BracketDraws x = eight();
        x.byHand(0);
        x.byHand(1);
        x.byHand(0);
        x.byHand(3);
        x.byHand(2);
        x.byHand(4);
        x.byHand(4);
        Check.due("count(8)", x.count(8), 8);
        x.play();
        Check.due("round 1", Calls.brackets(x), "0,2,4,7;");
        Check.due("byHand(0)", x.byHand(0), 2);
        Check.due("byHand(2)", x.byHand(2), 0);
        x.undo();
        x.play();
        Check.due("round 2, the latest undone", Calls.brackets(x), "0,2,4,7;0,7;");
    }

    /** Promise 21: "BY HAND a PLAYER comes through in the next ROUND" That may be the last one, but none behind it. */
    static void promise21InTheLastRound() {
        BracketDraws x = eight();
        x.play();
        x.play();
        Check.due("byHand(3)", x.byHand(3), 7);
        Check.due("winner()", x.winner(), 3);
        x.play();
        Check.due("all", Calls.brackets(x), "1,3,5,7;3,7;3;");
        Check.due("byHand(3), all is played", x.byHand(3), STATE);
    }

    /** Promise 21: "BAD" No such player; ahead of STATE, too. */
    static void promise21NoSuchPlayer() {
        for (int players = 0; players <= 10; players++) {
            BracketDraws x = Calls.plain(players);
            for (int i = 0; i < 2; i++) {
                for (int player : new int[] {-1, players, 10, 11, MIN, MAX}) {
                    Check.due("byHand(" + player + ") of " + players, x.byHand(player), BAD);
                }
                x.take(0);
            }
        }
        BracketDraws x = taken("x1;x2", 0);
        x.play();
        Check.due("byHand(2), all is played", x.byHand(2), BAD);
        Check.due("byHand(10), all is played", x.byHand(10), BAD);
    }

    /** Promise 21: "STATE: no DRAW, all are played, it came not through so far." It is no change then. */
    static void promise21NotNow() {
        BracketDraws x = Calls.with("x1;x2;x3;x4");
        Check.due("byHand(0), no draw", x.byHand(0), STATE);
        Check.due("byHand(0) of one", Calls.plain(1).byHand(0), STATE);
        x.take(0);
        x.play();
        Check.due("byHand(0), out in round 1", x.byHand(0), STATE);
        Check.due("byHand(2), out in round 1", x.byHand(2), STATE);
        x.play();
        for (int player = 0; player < 4; player++) {
            Check.due("byHand(" + player + "), all are played", x.byHand(player), STATE);
        }
        Check.due("count(8)", x.count(8), 3);
        x.undo();
        Check.due("count(9)", x.count(9), 1);
        Check.due("byHand(0), out still", x.byHand(0), STATE);
        Check.due("count(9)", x.count(9), 1);
        Check.due("byHand(1)", x.byHand(1), 3);
    }

    // ---- promise 22

    /**
     * Promise 22: "Who came through in the k-th BLOCK (from 0) of a ROUND (from 1)." The first and the last of each.
     */
    static void promise22FirstAndLastBlock() {
        BracketDraws x = Calls.plain(10);
        x.take(0);
        for (int round = 1; round <= 4; round++) {
            x.play();
        }
        int[][] due = {{0, 1, 2, 3, 4, 5, 6, 8}, {0, 2, 4, 6}, {0, 4}, {0}};
        for (int round = 1; round <= 4; round++) {
            for (int k = 0; k < due[round - 1].length; k++) {
                Check.due("through(" + round + ", " + k + ")", x.through(round, k), due[round - 1][k]);
            }
        }
    }

    /**
     * Promise 22: "BAD" No such round, no such block: one too small, one too large, far off; ahead of STATE and NOT.
     */
    static void promise22NoSuchRoundNoSuchBlock() {
        for (int players = 0; players <= 10; players++) {
            BracketDraws x = Calls.plain(players);
            int slots = AllDraws.slotsFor(players);
            for (int i = 0; i < 3; i++) {
                for (int round : new int[] {-1, 0, LAST_ROUND[players] + 1, 5, 32, 33, MIN, MIN + 1, MAX}) {
                    Check.due("through(" + round + ", 0) of " + players, x.through(round, 0), BAD);
                }
                for (int round = 1; round <= LAST_ROUND[players]; round++) {
                    for (int k : new int[] {-1, slots >> round, 8, MIN, MAX}) {
                        Check.due("through(" + round + ", " + k + ") of " + players, x.through(round, k), BAD);
                    }
                }
                x.take(0);
                x.play();
            }
        }
    }

    /** Promise 22: "STATE: no DRAW; NOT: it isn't played yet." */
    static void promise22NoDrawNotPlayedYet() {
        for (int players = 0; players <= 10; players++) {
            BracketDraws x = Calls.plain(players);
            int last = LAST_ROUND[players];
            Check.due("through(1, 0) of " + players, x.through(1, 0), STATE);
            Check.due("through(last, 0) of " + players, x.through(last, 0), STATE);
            x.take(0);
            for (int played = 0; players > 1 && played < last; played++) {
                Check.due("through() of the next round of " + players, x.through(played + 1, 0), NOT);
                Check.due("through() of the last round of " + players, x.through(last, 0), NOT);
                x.play();
                Check.due("through() of that round of " + players, x.through(played + 1, 0), 0);
            }
        }
        BracketDraws x = eight();
        x.play();
        x.undo();
        Check.due("through(1, 0), undone", x.through(1, 0), NOT);
    }

    // ---- promise 23

    /**
     * Promise 23: "WAY of a PLAYER: whom it has met in each ROUND that was played." "WAY: whom a PLAYER met in a ROUND
     * (10: a BYE)."
     */
    static void promise23WhomItMet() {
        BracketDraws x = Calls.plain(10);
        x.take(0);
        for (int round = 1; round <= 4; round++) {
            x.play();
        }
        int[][] due = {{10, 1, 2, 4}, {10, 0, NOT, NOT}, {10, 3, 0, NOT}, {10, 2, NOT, NOT}, {10, 5, 6, 0},
            {10, 4, NOT, NOT}, {7, 8, 4, NOT}, {6, NOT, NOT, NOT}, {9, 6, NOT, NOT}, {8, NOT, NOT, NOT}};
        for (int player = 0; player < 10; player++) {
            for (int round = 1; round <= 4; round++) {
                Check.due("met(" + player + ", " + round + ")", x.met(player, round), due[player][round - 1]);
            }
        }
    }

    /** Promise 23: "BAD" No such player, no such round; ahead of STATE and NOT. */
    static void promise23NoSuchPlayerNoSuchRound() {
        for (int players = 0; players <= 10; players++) {
            BracketDraws x = Calls.plain(players);
            for (int i = 0; i < 3; i++) {
                for (int player : new int[] {-1, players, 10, 11, MIN, MAX}) {
                    Check.due("met(" + player + ", 1) of " + players, x.met(player, 1), BAD);
                }
                for (int round : new int[] {-1, 0, LAST_ROUND[players] + 1, 5, 32, 33, MIN, MIN + 1, MAX}) {
                    Check.due("met(0, " + round + ") of " + players, x.met(0, round), BAD);
                }
                x.take(0);
                x.play();
            }
        }
    }

    /** Promise 23: "STATE: no DRAW; NOT: it isn't played, or the PLAYER was out by then." */
    static void promise23NoDrawNotPlayedOut() {
        BracketDraws x = Calls.with("x1;x2;x3;x4");
        Check.due("met(0, 1), no draw", x.met(0, 1), STATE);
        Check.due("met(0, 2), no draw", x.met(0, 2), STATE);
        x.take(0);
        Check.due("met(0, 1), not played", x.met(0, 1), NOT);
        x.play();
        Check.due("met(0, 1), who lost", x.met(0, 1), 1);
        Check.due("met(1, 1), who won", x.met(1, 1), 0);
        Check.due("met(0, 2), out and not played", x.met(0, 2), NOT);
        Check.due("met(1, 2), not played", x.met(1, 2), NOT);
        x.play();
        Check.due("met(0, 2), out", x.met(0, 2), NOT);
        Check.due("met(1, 2), who lost the last one", x.met(1, 2), 3);
        x.undo();
        Check.due("met(1, 2), undone", x.met(1, 2), NOT);
    }

    // ---- promise 24

    /** Promise 24: "LIKELY WINNER: who would win, were all ROUNDS from now on played, what is BY HAND counting." */
    static void promise24FromNowOn() {
        BracketDraws x = eight();
        Check.due("winner(), nothing played", x.winner(), 7);
        x.byHand(6);
        Check.due("winner(), by hand counting", x.winner(), 6);
        x.byHand(7);
        Check.due("winner(), the latest by hand counting", x.winner(), 7);
        x.play();
        x.tell(1, 3, 99);
        x.tell(0, 3, 99);
        Check.due("winner(), with strengths as they are", x.winner(), 1);
        x.byHand(3);
        Check.due("winner(), by hand in round 2", x.winner(), 7);
        x.play();
        Check.due("winner(), who is out cannot win", x.winner(), 7);
    }

    /** Promise 24: "LIKELY WINNER." Asking plays nothing and takes nothing from what is by hand. */
    static void promise24AskingChangesNothing() {
        BracketDraws x = eight();
        x.byHand(0);
        for (int i = 0; i < 3; i++) {
            Check.due("winner()", x.winner(), 7);
        }
        Check.due("count(4)", x.count(4), 0);
        Check.due("count(8)", x.count(8), 2);
        x.play();
        Check.due("round 1", Calls.brackets(x), "0,3,5,7;");
    }

    /** Promise 24: "winner() when all is played: who won." Whatever the strengths are by then. */
    static void promise24WhenAllIsPlayed() {
        BracketDraws x = taken("x1;x2", 0);
        x.byHand(0);
        x.play();
        x.tell(1, 3, 99);
        Check.due("winner()", x.winner(), 0);
        x = eight();
        for (int round = 1; round <= 3; round++) {
            x.play();
        }
        x.tell(7, 3, 0);
        Check.due("winner()", x.winner(), 7);
    }

    /** Promise 24: "STATE: no DRAW." */
    static void promise24NoDraw() {
        for (int players = 0; players <= 10; players++) {
            BracketDraws x = Calls.plain(players);
            Check.due("winner() of " + players, x.winner(), STATE);
            x.take(0);
            Check.due("winner() of " + players, x.winner(), players < 2 ? STATE : 0);
        }
        BracketDraws x = eight();
        x.tell(0, 0, 1);
        Check.due("winner(), the draw is none any more", x.winner(), STATE);
    }

    // ---- promise 25

    /** Promise 25: "In how many DRAWS a PLAYER would win by STRENGTH alone" For 2 to 8 players. */
    static void promise25ByStrengthAlone() {
        long[] draws = {0, 0, 2, 24, 24, 3840, 17280, 40320, 40320};
        for (int players = 2; players <= 8; players++) {
            BracketDraws x = Calls.plain(players);
            Check.due("wins(0), of like ones the lesser number", x.wins(0), draws[players]);
            Check.due("wins() of the last of " + players, x.wins(players - 1), 0);
            x.tell(players - 1, 3, 1);
            Check.due("wins(0), who is weaker", x.wins(0), 0);
            Check.due("wins() of the last of " + players, x.wins(players - 1), draws[players]);
            x.tell(0, 3, 99);
            x.tell(players - 1, 3, 99);
            Check.due("wins(0), again alike", x.wins(0), draws[players]);
        }
    }

    /** Promise 25: "(nothing BY HAND)" Nor does it matter what is taken and played. */
    static void promise25NothingByHand() {
        BracketDraws x = taken("x10;x20", 0);
        x.byHand(0);
        Check.due("wins(0)", x.wins(0), 0);
        Check.due("wins(1)", x.wins(1), 2);
        x.play();
        Check.due("wins(0), round 1 played", x.wins(0), 0);
        Check.due("wins(1), round 1 played", x.wins(1), 2);
    }

    /** Promise 25: "for 8 PLAYERS at most." "BAD; STATE: fewer than 2, more than 8." BAD is ahead of STATE. */
    static void promise25FewerThan2MoreThan8() {
        for (int players = 0; players <= 10; players++) {
            BracketDraws x = Calls.plain(players);
            for (int player : new int[] {-1, players, 10, 11, MIN, MAX}) {
                Check.due("wins(" + player + ") of " + players, x.wins(player), BAD);
            }
            if (players > 0) {
                boolean state = x.wins(players - 1) == STATE;
                Check.due("wins() of " + players + " is STATE", state ? 1 : 0, players < 2 || players > 8 ? 1 : 0);
            }
        }
    }
}
