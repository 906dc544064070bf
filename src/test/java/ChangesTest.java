/** Promises 28 to 32: changes undone and done again, the image, counts. */
public final class ChangesTest {
    private static final int BAD = -1, NOT = -2, STATE = -5;

    public static void main(String[] args) {
        eachChangeIsOne();
        refusedAndAskingCallsAreNone();
        undoLaysAllBack();
        undoOfPlayLaysByHandBack();
        redoUntilAnotherChange();
        tenAtMost();
        playersEndChanges();
        imageAndBack();
        imageKeepsTheRounds();
        backLeavesTheTape();
        counts();
        Check.end();
    }

    private static void eachChangeIsOne() {
        BracketDraws x = Calls.plain(4);
        x.tell(0, 0, 1);
        Check.due("count(8) behind a club", x.count(8), 1);
        x.tell(0, 1, 1);
        Check.due("count(8) behind a region", x.count(8), 2);
        x.tell(0, 2, 1);
        Check.due("count(8) behind a seed", x.count(8), 3);
        x.tell(0, 3, 1);
        x.tell(0, 3, 1);
        Check.due("count(8) behind a strength, twice the same", x.count(8), 5);
        x.level(0, 2);
        x.level(1, 2);
        Check.due("count(8) behind levels", x.count(8), 7);
        Check.due("relaxed(1)", x.relaxed(1), 22);
        Check.due("count(8) behind relaxed", x.count(8), 8);
        x.take(0);
        Check.due("count(8) behind take", x.count(8), 9);
        x.drawn(0);
        Check.due("count(8) behind drawn", x.count(8), 10);
        int[] due = {9, 8, 7, 6, 5, 4, 3, 2, 1, 0};
        for (int i = 0; i < 10; i++) {
            Check.due("undo()", x.undo(), due[i]);
        }
        Check.due("of(0, 0)", x.of(0, 0), 0);
        Check.due("count(5)", x.count(5), 1);
        x.take(0);
        x.byHand(1);
        Check.due("count(8) behind byHand", x.count(8), 2);
        x.play();
        Check.due("count(8) behind play", x.count(8), 3);
        Check.due("count(9)", x.count(9), 0);
    }

    private static void refusedAndAskingCallsAreNone() {
        BracketDraws x = Calls.plain(4);
        x.take(1);
        x.play();
        x.undo();
        x.player(6, 0, 0, 0);
        x.tell(0, 0, 6);
        x.level(0, 5);
        x.feed('c');
        x.players();
        x.howMany();
        x.stands(0, 0);
        x.meets(0, 1, 1);
        x.apart(3, 1);
        x.take(24);
        x.slot(0);
        x.swapped(0, 1);
        x.soonest(0, 1);
        x.relaxed(0);
        x.relaxed(2);
        x.byHand(4);
        x.winner();
        x.wins(0);
        x.print(0);
        x.brackets(0);
        x.image();
        Check.due("count(8)", x.count(8), 1);
        Check.due("count(9)", x.count(9), 1);
        Check.due("redo()", x.redo(), 0);
        Check.due("count(4)", x.count(4), 1);
        Check.due("redo(), none", x.redo(), STATE);
        Check.due("count(4)", x.count(4), 1);
    }

    private static void undoLaysAllBack() {
        BracketDraws x = Calls.with("c1s1x10;x20;x30;x40");
        x.take(4);
        x.play();
        String draw = Calls.printed(x);
        String rounds = Calls.brackets(x);
        x.tell(0, 0, 5);
        Check.due("number()", x.number(), STATE);
        Check.due("undo() of a club", x.undo(), 2);
        Check.due("of(0, 0)", x.of(0, 0), 1);
        Check.due("number()", x.number(), 4);
        Check.due("the draw", Calls.printed(x), draw);
        Check.due("its rounds", Calls.brackets(x), rounds);
        x.tell(0, 2, 0);
        x.undo();
        Check.due("of(0, 2)", x.of(0, 2), 1);
        Check.due("howMany()", x.howMany(), 6);
        x.level(1, 3);
        x.undo();
        Check.due("count(6)", x.count(6), 0);
        Check.due("number()", x.number(), 4);
        x.tell(3, 3, 1);
        x.undo();
        Check.due("of(3, 3)", x.of(3, 3), 40);
        x.take(0);
        x.undo();
        Check.due("number()", x.number(), 4);
        Check.due("its rounds", Calls.brackets(x), rounds);
        Check.due("undo() of the round", x.undo(), 1);
        Check.due("count(4)", x.count(4), 0);
        Check.due("undo() of take", x.undo(), 0);
        Check.due("number()", x.number(), STATE);
        Check.due("undo(), none", x.undo(), STATE);
        Check.due("count(9)", x.count(9), 3);
        Check.due("redo() of take", x.redo(), 2);
        Check.due("the draw", Calls.printed(x), draw);
        Check.due("redo() of the round", x.redo(), 1);
        Check.due("its rounds", Calls.brackets(x), rounds);
    }

    private static void undoOfPlayLaysByHandBack() {
        BracketDraws x = Calls.with("x10;x20;x30;x40");
        x.take(0);
        x.byHand(0);
        x.play();
        Check.due("round 1", x.through(1, 0), 0);
        x.undo();
        Check.due("met(0, 1)", x.met(0, 1), NOT);
        x.play();
        Check.due("round 1, by hand still", x.through(1, 0), 0);
        x.undo();
        x.undo();
        x.play();
        Check.due("round 1, nothing by hand", x.through(1, 0), 1);
    }

    private static void redoUntilAnotherChange() {
        BracketDraws x = Calls.plain(2);
        x.tell(0, 3, 1);
        x.tell(0, 3, 2);
        x.tell(0, 3, 3);
        Check.due("redo(), none", x.redo(), STATE);
        x.undo();
        x.undo();
        Check.due("of(0, 3)", x.of(0, 3), 1);
        Check.due("count(9)", x.count(9), 2);
        Check.due("redo()", x.redo(), 1);
        Check.due("of(0, 3)", x.of(0, 3), 2);
        Check.due("count(8)", x.count(8), 2);
        x.tell(0, 3, 2);
        Check.due("redo() behind another", x.redo(), STATE);
        Check.due("count(8)", x.count(8), 3);
        Check.due("undo()", x.undo(), 2);
        Check.due("undo()", x.undo(), 1);
        Check.due("of(0, 3)", x.of(0, 3), 1);
    }

    private static void tenAtMost() {
        BracketDraws x = Calls.plain(2);
        for (int v = 1; v <= 25; v++) {
            x.tell(1, 3, v);
            Check.due("count(8)", x.count(8), Math.min(v, 10));
        }
        for (int left = 9; left >= 0; left--) {
            Check.due("undo()", x.undo(), left);
        }
        Check.due("undo(), none", x.undo(), STATE);
        Check.due("of(1, 3)", x.of(1, 3), 15);
        Check.due("count(9)", x.count(9), 10);
        for (int left = 9; left >= 0; left--) {
            Check.due("redo()", x.redo(), left);
            Check.due("of(1, 3)", x.of(1, 3), 25 - left);
        }
        Check.due("redo(), none", x.redo(), STATE);
        x.undo();
        x.undo();
        x.tell(0, 3, 9);
        Check.due("count(8)", x.count(8), 9);
        Check.due("count(9)", x.count(9), 0);
    }

    private static void playersEndChanges() {
        BracketDraws x = Calls.plain(2);
        x.tell(1, 3, 5);
        x.tell(1, 3, 6);
        x.undo();
        x.player(0, 0, 0, 0);
        Check.due("undo()", x.undo(), STATE);
        Check.due("redo()", x.redo(), STATE);
        x.tell(1, 3, 7);
        x.undo();
        Check.due("of(1, 3)", x.of(1, 3), 5);
        Check.due("count(0)", x.count(0), 3);
    }

    private static void imageAndBack() {
        BracketDraws x = new BracketDraws();
        Check.due("back(), none", x.back(), STATE);
        Check.due("image() of none", x.image(), 0);
        Calls.texted(x, "c1r1s1x1;c2r2s2x2");
        x.level(0, 3);
        Check.due("back()", x.back(), 0);
        Check.due("count(0)", x.count(0), 0);
        Check.due("count(5)", x.count(5), 1);
        Check.due("howMany()", x.howMany(), STATE);
        Check.due("a seed free again", x.player(0, 0, 1, 0), 0);
        x.player(3, 2, 4, 9);
        x.level(1, 4);
        x.take(0);
        Check.due("image()", x.image(), 2);
        x.tell(1, 0, 0);
        x.tell(1, 1, 0);
        x.tell(1, 2, 0);
        x.tell(1, 3, 0);
        x.level(1, 0);
        x.undo();
        Check.due("back()", x.back(), 2);
        int[] due = {3, 2, 4, 9};
        for (int what = 0; what < 4; what++) {
            Check.due("of(1, " + what + ")", x.of(1, what), due[what]);
        }
        Check.due("count(6)", x.count(6), 4);
        Check.due("number()", x.number(), 0);
        Check.due("count(8)", x.count(8), 0);
        Check.due("count(9)", x.count(9), 0);
        Check.due("undo()", x.undo(), STATE);
        Check.due("redo()", x.redo(), STATE);
        x.player(0, 0, 0, 0);
        Check.due("back() again", x.back(), 2);
        x.tell(0, 3, 50);
        Check.due("image() anew", x.image(), 2);
        x.undo();
        Check.due("of(0, 3)", x.of(0, 3), 0);
        x.back();
        Check.due("of(0, 3), the later image", x.of(0, 3), 50);
        Check.due("image() keeps no changes", x.undo(), STATE);
    }

    private static void imageKeepsTheRounds() {
        BracketDraws x = Calls.with("x10;x20;x30;x40;x50");
        x.take(3000);
        x.play();
        x.byHand(x.through(1, 0));
        String draw = Calls.printed(x);
        int winner = x.winner();
        int first = x.through(1, 0);
        x.image();
        Check.due("count(8), an image changes none", x.count(8), 3);
        x.play();
        x.play();
        x.take(0);
        x.back();
        Check.due("number()", x.number(), 3000);
        Check.due("the draw", Calls.printed(x), draw);
        Check.due("count(4)", x.count(4), 1);
        Check.due("winner()", x.winner(), winner);
        x.play();
        Check.due("by hand still", x.through(2, 0), first);
        Check.due("undo()", x.undo(), 0);
        Check.due("count(4)", x.count(4), 1);
    }

    private static void backLeavesTheTape() {
        BracketDraws x = new BracketDraws();
        x.feed('c');
        x.image();
        x.feed('4');
        x.back();
        Check.due("count(7)", x.count(7), 2);
        Check.due("players()", x.players(), 1);
        x.feed('c');
        x.tell(0, 3, 1);
        x.undo();
        x.redo();
        Check.due("count(7)", x.count(7), 1);
        x.back();
        Check.due("count(7)", x.count(7), 1);
        Check.due("count(0)", x.count(0), 0);
    }

    private static void counts() {
        BracketDraws x = Calls.plain(5);
        x.level(0, 2);
        x.level(1, 3);
        x.drawn(3);
        x.play();
        x.play();
        x.play();
        x.undo();
        x.feed('x');
        int[] due = {5, 8, 3, 3, 2, 2, 3, 1, 5, 1};
        for (int what = 0; what < due.length; what++) {
            Check.due("count(" + what + ")", x.count(what), due[what]);
        }
        Check.due("count(10)", x.count(10), BAD);
        Check.due("count(-1)", x.count(-1), BAD);
        Check.due("count(min)", x.count(Integer.MIN_VALUE), BAD);
        x.level(0, 2);
        Check.due("count(4) without a draw", x.count(4), 0);
        x = Calls.plain(1);
        for (int what = 1; what <= 4; what++) {
            Check.due("count(" + what + ") of one", x.count(what), 0);
        }
    }
}
