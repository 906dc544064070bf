/** Promises 26 and 27 at their edges, sentence by sentence: the draw and its brackets printed. */
public final class PrintedEdgesTest {
    private static final int BAD = -1, NOT = -2, STATE = -5;
    private static final int MIN = Integer.MIN_VALUE, MAX = Integer.MAX_VALUE;

    public static void main(String[] args) {
        Check.all(PrintedEdgesTest.class);
    }

    private interface Printed {
        int at(BracketDraws x, int i);
    }

    /** Each byte from the first to the last, how many there are, and what is beside them. */
    private static void bytes(BracketDraws x, Printed call, String due) {
        Check.due("how many", call.at(x, -1), due.length());
        for (int i = 0; i < due.length(); i++) {
            Check.due("byte " + i + " of " + due, call.at(x, i), due.charAt(i));
        }
        for (int i : new int[] {due.length(), due.length() + 1, 31, 32, 1000, MAX - 1, MAX}) {
            Check.due("byte " + i + " of " + due, call.at(x, i), NOT);
        }
        for (int i : new int[] {-2, -3, MIN, MIN + 1}) {
            Check.due("byte " + i + " of " + due, call.at(x, i), BAD);
        }
    }

    private static BracketDraws taken(int players, long number) {
        BracketDraws x = Calls.plain(players);
        x.take(number);
        return x;
    }

    /** Promises 26, 27: "STATE" BAD is ahead of it, and it is ahead of NOT. */
    static void promises26And27WithoutADraw() {
        for (int players = 0; players <= 10; players += 5) {
            BracketDraws x = Calls.plain(players);
            for (int i : new int[] {-1, 0, 1, 1000, MAX}) {
                Check.due("print(" + i + ") of " + players, x.print(i), STATE);
                Check.due("brackets(" + i + ") of " + players, x.brackets(i), STATE);
            }
            for (int i : new int[] {-2, MIN}) {
                Check.due("print(" + i + ") of " + players, x.print(i), BAD);
                Check.due("brackets(" + i + ") of " + players, x.brackets(i), BAD);
            }
        }
    }

    /** Promise 26: "Byte i of THE DRAW PRINTED (i -1: how many). BAD: i below -1; STATE; NOT: it has fewer." */
    static void promise26FromTheFirstByteToTheLast() {
        bytes(taken(2, 1), BracketDraws::print, "1 0");
        bytes(taken(3, 1), BracketDraws::print, "- 0 2 1");
        bytes(taken(5, 0), BracketDraws::print, "- 0 - 1|- 2 3 4");
        bytes(taken(10, 0), BracketDraws::print, "- 0 - 1|- 2 - 3|- 4 - 5|6 7 8 9");
    }

    /** Promise 26: "THE DRAW PRINTED: SLOT by SLOT the PLAYER's number, - for a BYE;" Player 9 is one byte, too. */
    static void promise26PlayersAndByes() {
        bytes(taken(10, 6502809599L), BracketDraws::print, "9 8 7 6|5 - 4 -|3 - 2 -|1 - 0 -");
        bytes(taken(3, 23), BracketDraws::print, "2 1 0 -");
        bytes(taken(9, 0), BracketDraws::print, "- 0 - 1|- 2 - 3|- 4 - 5|- 6 7 8");
    }

    /**
     * Promise 26: "ahead of each but the first a blank, or, where a BLOCK of ROUND 2 begins, a | (for 2 SLOTS none)."
     * For 4 slots none either, as the first has nothing ahead of it; one for 8, three for 16.
     */
    static void promise26BlanksAndBars() {
        bytes(taken(2, 0), BracketDraws::print, "0 1");
        bytes(taken(4, 0), BracketDraws::print, "0 1 2 3");
        bytes(taken(8, 0), BracketDraws::print, "0 1 2 3|4 5 6 7");
        BracketDraws ten = taken(10, 0);
        for (int slot = 1; slot < 16; slot++) {
            Check.due("ahead of slot " + slot, ten.print(2 * slot - 1), slot % 4 == 0 ? '|' : ' ');
        }
    }

    /** Promise 26: "Byte i of THE DRAW PRINTED" As it was taken, whatever is played, by hand or told of strengths. */
    static void promise26RoundsDoNotShow() {
        BracketDraws x = taken(4, 7);
        x.byHand(3);
        x.play();
        x.tell(0, 3, 50);
        x.play();
        bytes(x, BracketDraws::print, "2 0 3 1");
    }

    /** Promise 27: "Byte i of BRACKETS PRINTED likewise." From nothing to 30 bytes. */
    static void promise27FromTheFirstByteToTheLast() {
        bytes(taken(2, 0), BracketDraws::brackets, "");
        BracketDraws x = taken(10, 6502809599L);
        String[] due = {"", "8,6,5,4,3,2,1,0;", "8,6,5,4,3,2,1,0;6,4,2,0;", "8,6,5,4,3,2,1,0;6,4,2,0;4,0;",
            "8,6,5,4,3,2,1,0;6,4,2,0;4,0;0;"};
        for (int played = 0; played <= 4; played++) {
            bytes(x, BracketDraws::brackets, due[played]);
            x.play();
        }
        BracketDraws nine = Calls.with("x1;x1;x1;x1;x1;x1;x1;x1;x9");
        nine.take(0);
        nine.play();
        bytes(nine, BracketDraws::brackets, "0,1,2,3,4,5,6,8;");
    }

    /**
     * Promise 27: "BRACKETS PRINTED: for each ROUND that was played its BLOCKS' winners, with , between, a ; behind
     * each ROUND." One block alone has nothing between; a round undone is not played.
     */
    static void promise27EachRoundThatWasPlayed() {
        BracketDraws x = taken(2, 1);
        x.play();
        bytes(x, BracketDraws::brackets, "0;");
        x.undo();
        bytes(x, BracketDraws::brackets, "");
        x = taken(5, 0);
        x.play();
        bytes(x, BracketDraws::brackets, "0,1,2,3;");
        x.byHand(3);
        bytes(x, BracketDraws::brackets, "0,1,2,3;");
        x.play();
        bytes(x, BracketDraws::brackets, "0,1,2,3;0,3;");
        x.play();
        bytes(x, BracketDraws::brackets, "0,1,2,3;0,3;0;");
        x.take(0);
        bytes(x, BracketDraws::brackets, "");
    }
}
