/** Promises 26 and 27: the draw and its brackets, printed. */
public final class PrintedTest {
    private static final int BAD = -1, NOT = -2, STATE = -5;

    public static void main(String[] args) {
        printOfEachSize();
        printByteByByte();
        bracketsByteByByte();
        Check.end();
    }

    private static void printOfEachSize() {
        String[] due = {"", "", "0 1", "- 0 1 2", "0 1 2 3", "- 0 - 1|- 2 3 4", "- 0 - 1|2 3 4 5", "- 0 1 2|3 4 5 6",
            "0 1 2 3|4 5 6 7", "- 0 - 1|- 2 - 3|- 4 - 5|- 6 7 8", "- 0 - 1|- 2 - 3|- 4 - 5|6 7 8 9"};
        for (int players = 2; players <= 10; players++) {
            BracketDraws x = Calls.plain(players);
            x.take(0);
            Check.due("print(-1) of " + players, x.print(-1), due[players].length());
            Check.due("printed, of " + players, Calls.printed(x), due[players]);
        }
    }

    private static void printByteByByte() {
        BracketDraws x = Calls.plain(3);
        Check.due("print(-1) without a draw", x.print(-1), STATE);
        Check.due("print(0) without a draw", x.print(0), STATE);
        Check.due("print(-2) without a draw", x.print(-2), BAD);
        x.take(1);
        int[] due = {45, 32, 48, 32, 50, 32, 49};
        for (int i = 0; i < due.length; i++) {
            Check.due("print(" + i + ")", x.print(i), due[i]);
        }
        Check.due("print(-1)", x.print(-1), 7);
        Check.due("print(7)", x.print(7), NOT);
        Check.due("print(max)", x.print(Integer.MAX_VALUE), NOT);
        Check.due("print(-2)", x.print(-2), BAD);
        Check.due("print(min)", x.print(Integer.MIN_VALUE), BAD);
        x.play();
        Check.due("printed, round 1 played", Calls.printed(x), "- 0 2 1");
    }

    private static void bracketsByteByByte() {
        BracketDraws x = Calls.with("x10;x30;x20;x5;x5");
        Check.due("brackets(-1) without a draw", x.brackets(-1), STATE);
        Check.due("brackets(0) without a draw", x.brackets(0), STATE);
        Check.due("brackets(-2) without a draw", x.brackets(-2), BAD);
        x.take(0);
        Check.due("brackets(-1), nothing played", x.brackets(-1), 0);
        Check.due("brackets(0), nothing played", x.brackets(0), NOT);
        x.play();
        Check.due("brackets(-1), round 1 played", x.brackets(-1), 8);
        Check.due("brackets, round 1 played", Calls.brackets(x), "0,1,2,3;");
        Check.due("brackets(8), round 1 played", x.brackets(8), NOT);
        x.play();
        Check.due("brackets, round 2 played", Calls.brackets(x), "0,1,2,3;1,2;");
        x.play();
        Check.due("brackets(-1), all played", x.brackets(-1), 14);
        int[] due = {48, 44, 49, 44, 50, 44, 51, 59, 49, 44, 50, 59, 49, 59};
        for (int i = 0; i < due.length; i++) {
            Check.due("brackets(" + i + ")", x.brackets(i), due[i]);
        }
        Check.due("brackets(14)", x.brackets(14), NOT);
        Check.due("brackets(max)", x.brackets(Integer.MAX_VALUE), NOT);
        Check.due("brackets(-2)", x.brackets(-2), BAD);
        Check.due("brackets(min)", x.brackets(Integer.MIN_VALUE), BAD);
        BracketDraws ten = Calls.plain(10);
        ten.take(0);
        ten.play();
        Check.due("brackets of ten", Calls.brackets(ten), "0,1,2,3,4,5,6,8;");
    }
}
