/** Promises 20 to 25: rounds played by strengths and by hand, ways, the likely winner, wins. */
public final class RoundsTest {
    private static final int BAD = -1, NOT = -2, STATE = -5;

    public static void main(String[] args) {
        playRoundByRound();
        likeStrengths();
        strengthAsItIsThen();
        byHandBeatsStrength();
        byHandTheLatestOfAMeeting();
        byHandForTheNextRoundAlone();
        byHandRefused();
        byHandAcrossFromABye();
        takenAnewNothingIsLeft();
        through();
        met();
        winner();
        wins();
        Check.end();
    }

    /** 0 -|1 2: strengths 10, 30, 20; slots 0 - 1 2. */
    private static BracketDraws three() {
        BracketDraws x = Calls.with("x10;x30;x20");
        x.take(2);
        Check.due("the draw", Calls.printed(x), "0 - 1 2");
        return x;
    }

    /** Eight in their order: 0 1 2 3|4 5 6 7. */
    private static BracketDraws eight() {
        BracketDraws x = Calls.with("x10;x20;x30;x40;x50;x60;x70;x80");
        x.take(0);
        Check.due("the draw", Calls.printed(x), "0 1 2 3|4 5 6 7");
        return x;
    }

    private static void playRoundByRound() {
        BracketDraws x = Calls.plain(3);
        Check.due("play() without a draw", x.play(), STATE);
        Check.due("play() without players", new BracketDraws().play(), STATE);
        x = three();
        Check.due("play()", x.play(), 1);
        Check.due("count(4)", x.count(4), 1);
        Check.due("play()", x.play(), 2);
        Check.due("count(4)", x.count(4), 2);
        Check.due("play() behind the last", x.play(), STATE);
        Check.due("count(4)", x.count(4), 2);
        Check.due("count(8)", x.count(8), 3);
        Check.due("all rounds", Calls.brackets(x), "0,1;1;");
        x = eight();
        for (int round = 1; round <= 3; round++) {
            Check.due("play() of eight", x.play(), round);
        }
        Check.due("all rounds of eight", Calls.brackets(x), "1,3,5,7;3,7;7;");
        x = Calls.plain(10);
        x.take(0);
        for (int round = 1; round <= 4; round++) {
            Check.due("play() of ten", x.play(), round);
        }
        Check.due("play() of ten", x.play(), STATE);
        Check.due("all rounds of ten", Calls.brackets(x), "0,1,2,3,4,5,6,8;0,2,4,6;0,4;0;");
    }

    private static void likeStrengths() {
        BracketDraws x = Calls.with("x5;x5;x5;x5");
        x.take(23);
        Check.due("the draw", Calls.printed(x), "3 2 1 0");
        x.play();
        x.play();
        Check.due("the lesser number", Calls.brackets(x), "2,0;0;");
    }

    private static void strengthAsItIsThen() {
        BracketDraws x = eight();
        x.play();
        x.tell(1, 3, 99);
        x.tell(0, 3, 98);
        Check.due("round 1 stays", x.through(1, 0), 1);
        x.tell(2, 3, 99);
        Check.due("round 1 stays", x.through(1, 1), 3);
        x.play();
        Check.due("round 2 as strengths are by then", x.through(2, 0), 1);
        x.tell(1, 3, 0);
        Check.due("round 2 stays", x.through(2, 0), 1);
        x.play();
        Check.due("round 3", x.through(3, 0), 7);
        x.tell(7, 3, 0);
        Check.due("winner() when all is played", x.winner(), 7);
    }

    private static void byHandBeatsStrength() {
        BracketDraws x = eight();
        Check.due("byHand(0)", x.byHand(0), 1);
        Check.due("byHand(6)", x.byHand(6), 7);
        Check.due("count(4)", x.count(4), 0);
        Check.due("through(1, 0) by now", x.through(1, 0), NOT);
        Check.due("winner()", x.winner(), 6);
        x.play();
        Check.due("round 1", Calls.brackets(x), "0,3,5,6;");
        Check.due("byHand(0) again", x.byHand(0), 3);
        Check.due("byHand(5)", x.byHand(5), 6);
        x.play();
        Check.due("byHand(0) once more", x.byHand(0), 5);
        x.play();
        Check.due("all", Calls.brackets(x), "0,3,5,6;0,5;0;");
    }

    private static void byHandTheLatestOfAMeeting() {
        BracketDraws x = eight();
        x.byHand(0);
        Check.due("byHand(1)", x.byHand(1), 0);
        x.byHand(2);
        x.byHand(3);
        x.byHand(2);
        x.play();
        Check.due("the latest told", Calls.brackets(x), "1,2,5,7;");
        Check.due("count(8)", x.count(8), 7);
    }

    private static void byHandForTheNextRoundAlone() {
        BracketDraws x = eight();
        x.byHand(0);
        x.play();
        x.play();
        Check.due("by hand in round 1 alone", Calls.brackets(x), "0,3,5,7;3,7;");
        x = eight();
        x.byHand(4);
        x.undo();
        x.play();
        Check.due("by hand undone", x.through(1, 2), 5);
        x.undo();
        x.byHand(4);
        x.tell(4, 3, 1);
        x.play();
        Check.due("whatever their strength", x.through(1, 2), 4);
    }

    private static void byHandRefused() {
        BracketDraws x = eight();
        Check.due("byHand(8)", x.byHand(8), BAD);
        Check.due("byHand(-1)", x.byHand(-1), BAD);
        x.play();
        Check.due("byHand(0), who is out", x.byHand(0), STATE);
        Check.due("byHand(8) behind round 1", x.byHand(8), BAD);
        Check.due("count(8)", x.count(8), 2);
        x.play();
        Check.due("byHand(5), who is out", x.byHand(5), STATE);
        x.play();
        Check.due("byHand(7), all is played", x.byHand(7), STATE);
        Check.due("byHand(8), all is played", x.byHand(8), BAD);
        x = Calls.plain(2);
        Check.due("byHand(0) without a draw", x.byHand(0), STATE);
        Check.due("byHand(2) without a draw", x.byHand(2), BAD);
    }

    private static void byHandAcrossFromABye() {
        BracketDraws x = three();
        Check.due("byHand(0)", x.byHand(0), 10);
        Check.due("count(8)", x.count(8), 2);
        Check.due("winner()", x.winner(), 1);
        x.play();
        Check.due("round 1", Calls.brackets(x), "0,1;");
    }

    private static void takenAnewNothingIsLeft() {
        BracketDraws x = eight();
        x.play();
        x.byHand(1);
        x.take(0);
        Check.due("through(1, 0)", x.through(1, 0), NOT);
        x.play();
        x.play();
        Check.due("nothing is by hand", Calls.brackets(x), "1,3,5,7;3,7;");
        x.take(0);
        x.byHand(0);
        x.take(0);
        x.play();
        Check.due("nothing is by hand", x.through(1, 0), 1);
    }

    private static void through() {
        BracketDraws x = eight();
        Check.due("through(1, 0), not played", x.through(1, 0), NOT);
        x.play();
        int[] due = {1, 3, 5, 7};
        for (int k = 0; k < 4; k++) {
            Check.due("through(1, " + k + ")", x.through(1, k), due[k]);
        }
        Check.due("through(2, 0), not played", x.through(2, 0), NOT);
        Check.due("through(3, 0), not played", x.through(3, 0), NOT);
        int[][] bad = {{0, 0}, {4, 0}, {-1, 0}, {1, 4}, {1, -1}, {2, 2}, {3, 1}, {Integer.MAX_VALUE, 0},
            {1, Integer.MAX_VALUE}, {33, 0}};
        for (int[] b : bad) {
            Check.due("through(" + b[0] + ", " + b[1] + ")", x.through(b[0], b[1]), BAD);
        }
        x = new BracketDraws();
        Check.due("through(1, 0) without players", x.through(1, 0), STATE);
        Check.due("through(1, 1) without players", x.through(1, 1), BAD);
        Check.due("through(2, 0) without players", x.through(2, 0), BAD);
        Check.due("through(2, 0) without a draw", Calls.plain(3).through(2, 0), STATE);
    }

    private static void met() {
        BracketDraws x = three();
        Check.due("met(0, 1), not played", x.met(0, 1), NOT);
        x.play();
        Check.due("met(0, 1)", x.met(0, 1), 10);
        Check.due("met(1, 1)", x.met(1, 1), 2);
        Check.due("met(2, 1), who lost", x.met(2, 1), 1);
        Check.due("met(0, 2), not played", x.met(0, 2), NOT);
        x.play();
        Check.due("met(0, 2)", x.met(0, 2), 1);
        Check.due("met(1, 2)", x.met(1, 2), 0);
        Check.due("met(2, 2), who was out", x.met(2, 2), NOT);
        Check.due("met(0, 3)", x.met(0, 3), BAD);
        Check.due("met(0, 0)", x.met(0, 0), BAD);
        Check.due("met(3, 1)", x.met(3, 1), BAD);
        Check.due("met(-1, 1)", x.met(-1, 1), BAD);
        x = Calls.plain(1);
        Check.due("met(0, 1) without a draw", x.met(0, 1), STATE);
        Check.due("met(0, 2) without a draw", x.met(0, 2), BAD);
        Check.due("met(1, 1) without a draw", x.met(1, 1), BAD);
    }

    private static void winner() {
        BracketDraws x = eight();
        Check.due("winner()", x.winner(), 7);
        Check.due("winner() plays nothing", x.count(4), 0);
        Check.due("through(1, 0)", x.through(1, 0), NOT);
        x.tell(2, 3, 90);
        Check.due("winner() by strength as it is", x.winner(), 2);
        x.byHand(3);
        Check.due("winner() by hand", x.winner(), 7);
        x.play();
        x.byHand(1);
        Check.due("winner() behind round 1", x.winner(), 7);
        x.tell(1, 3, 99);
        Check.due("winner() by hand and strength", x.winner(), 1);
        Check.due("winner() without a draw", Calls.plain(3).winner(), STATE);
        Check.due("winner() without players", new BracketDraws().winner(), STATE);
    }

    private static void wins() {
        BracketDraws x = Calls.with("x10;x30;x30");
        Check.due("wins(0)", x.wins(0), 0);
        Check.due("wins(1), the lesser number", x.wins(1), 24);
        Check.due("wins(2)", x.wins(2), 0);
        x.tell(2, 3, 31);
        Check.due("wins(2), now stronger", x.wins(2), 24);
        Check.due("wins(1)", x.wins(1), 0);
        x.take(2);
        x.byHand(1);
        Check.due("wins(2), nothing by hand", x.wins(2), 24);
        Check.due("wins(3)", x.wins(3), BAD);
        Check.due("wins(-1)", x.wins(-1), BAD);
        Check.due("wins(0) of one", Calls.plain(1).wins(0), STATE);
        Check.due("wins(1) of one", Calls.plain(1).wins(1), BAD);
        Check.due("wins(0) of eight", Calls.plain(8).wins(0), 40320);
        Check.due("wins(0) of nine", Calls.plain(9).wins(0), STATE);
        Check.due("wins(9) of nine", Calls.plain(9).wins(9), BAD);
    }
}
