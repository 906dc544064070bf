/** Promises 1 to 7: players, levels, texts. */
public final class PlayersTest {
    private static final int BAD = -1, NOT = -2, FULL = -3, STATE = -5;

    public static void main(String[] args) {
        newObject();
        playersComeInOrder();
        playerRefused();
        playerEndsDrawAndChanges();
        tellAnswersWhatItWas();
        tellRefused();
        tellEndsTheDrawButForStrength();
        ofTellsEach();
        seedSlots();
        levels();
        feedTheTape();
        textsThatCome();
        textsWithFaults();
        textsWithSeedsAlready();
        textsOfTooMany();
        faultChangesNothing();
        Check.end();
    }

    private static void newObject() {
        BracketDraws x = new BracketDraws();
        int[] counts = {0, 0, 0, 0, 0, 1, 0, 0, 0, 0};
        for (int what = 0; what < counts.length; what++) {
            Check.due("new: count(" + what + ")", x.count(what), counts[what]);
        }
        Check.due("new: of(0, 0)", x.of(0, 0), BAD);
        Check.due("new: howMany()", x.howMany(), STATE);
        Check.due("new: number()", x.number(), STATE);
        Check.due("new: undo()", x.undo(), STATE);
        Check.due("new: redo()", x.redo(), STATE);
        Check.due("new: back()", x.back(), STATE);
        Check.due("new: slot(0)", x.slot(0), STATE);
        Check.due("new: slot(1)", x.slot(1), STATE);
        Check.due("new: slot(2)", x.slot(2), BAD);
    }

    private static void playersComeInOrder() {
        BracketDraws x = new BracketDraws();
        int[] slots = {0, 0, 2, 4, 4, 8, 8, 8, 8, 16, 16};
        int[] rounds = {0, 0, 1, 2, 2, 3, 3, 3, 3, 4, 4};
        for (int i = 0; i < 10; i++) {
            Check.due("player()", x.player(i % 6, i % 4, i < 9 ? i : 0, 11 * i), i);
            Check.due("count(0)", x.count(0), i + 1);
            Check.due("count(1) of " + (i + 1), x.count(1), slots[i + 1]);
            Check.due("count(2) of " + (i + 1), x.count(2), i == 0 ? 0 : slots[i + 1] - i - 1);
            Check.due("count(3) of " + (i + 1), x.count(3), rounds[i + 1]);
        }
        for (int i = 0; i < 10; i++) {
            Check.due("of(" + i + ", 0)", x.of(i, 0), i % 6);
            Check.due("of(" + i + ", 1)", x.of(i, 1), i % 4);
            Check.due("of(" + i + ", 2)", x.of(i, 2), i < 9 ? i : 0);
            Check.due("of(" + i + ", 3)", x.of(i, 3), 11 * i);
        }
        Check.due("an 11th", x.player(0, 0, 0, 0), FULL);
        Check.due("an 11th, not as said", x.player(6, 0, 0, 0), BAD);
        Check.due("an 11th, with a seed that is there", x.player(0, 0, 8, 0), BAD);
        Check.due("count(0)", x.count(0), 10);
    }

    private static void playerRefused() {
        BracketDraws x = new BracketDraws();
        Check.due("player(5, 3, 8, 99)", x.player(5, 3, 8, 99), 0);
        int[][] bad = {{-1, 0, 0, 0}, {6, 0, 0, 0}, {0, -1, 0, 0}, {0, 4, 0, 0}, {0, 0, -1, 0}, {0, 0, 9, 0},
            {0, 0, 0, -1}, {0, 0, 0, 100}, {0, 0, 8, 0}, {Integer.MIN_VALUE, 0, 0, 0}, {0, 0, Integer.MAX_VALUE, 0}};
        for (int[] b : bad) {
            Check.due("player(" + b[0] + ", " + b[1] + ", " + b[2] + ", " + b[3] + ")",
                    x.player(b[0], b[1], b[2], b[3]), BAD);
        }
        Check.due("count(0)", x.count(0), 1);
        Check.due("seed 0 again and again", x.player(0, 0, 0, 0), 1);
        Check.due("seed 0 again and again", x.player(0, 0, 0, 0), 2);
    }

    private static void playerEndsDrawAndChanges() {
        BracketDraws x = Calls.plain(4);
        x.take(3);
        Check.due("refused player()", x.player(9, 0, 0, 0), BAD);
        Check.due("number() behind a refused one", x.number(), 3);
        Check.due("count(8) behind a refused one", x.count(8), 1);
        x.play();
        x.undo();
        x.player(0, 0, 0, 0);
        Check.due("number() as one came", x.number(), STATE);
        Check.due("count(4) as one came", x.count(4), 0);
        Check.due("undo() as one came", x.undo(), STATE);
        Check.due("redo() as one came", x.redo(), STATE);
    }

    private static void tellAnswersWhatItWas() {
        BracketDraws x = Calls.with("c1r2s3x44;x5");
        Check.due("tell(0, 0, 5)", x.tell(0, 0, 5), 1);
        Check.due("tell(0, 1, 3)", x.tell(0, 1, 3), 2);
        Check.due("tell(0, 2, 8)", x.tell(0, 2, 8), 3);
        Check.due("tell(0, 3, 99)", x.tell(0, 3, 99), 44);
        Check.due("tell(1, 3, 0)", x.tell(1, 3, 0), 5);
        Check.due("tell(0, 0, 0)", x.tell(0, 0, 0), 5);
        Check.due("tell(0, 2, 8), its own", x.tell(0, 2, 8), 8);
        Check.due("tell(1, 2, 3), free by now", x.tell(1, 2, 3), 0);
        Check.due("tell(0, 2, 0)", x.tell(0, 2, 0), 8);
        Check.due("tell(1, 2, 0)", x.tell(1, 2, 0), 3);
        Check.due("of(0, 3)", x.of(0, 3), 99);
        Check.due("of(1, 3)", x.of(1, 3), 0);
        Check.due("of(0, 1)", x.of(0, 1), 3);
    }

    private static void tellRefused() {
        BracketDraws x = Calls.with("s1;s2");
        int[][] bad = {{-1, 0, 0}, {2, 0, 0}, {0, -1, 0}, {0, 4, 0}, {0, 0, -1}, {0, 0, 6}, {0, 1, -1}, {0, 1, 4},
            {0, 2, -1}, {0, 2, 9}, {0, 3, -1}, {0, 3, 100}, {0, 2, 2}, {1, 2, 1}, {Integer.MAX_VALUE, 0, 0}};
        for (int[] b : bad) {
            Check.due("tell(" + b[0] + ", " + b[1] + ", " + b[2] + ")", x.tell(b[0], b[1], b[2]), BAD);
        }
        Check.due("count(8)", x.count(8), 0);
        Check.due("of(0, 2)", x.of(0, 2), 1);
        Check.due("of(1, 2)", x.of(1, 2), 2);
    }

    private static void tellEndsTheDrawButForStrength() {
        BracketDraws x = Calls.plain(3);
        for (int what = 0; what < 4; what++) {
            x.take(5);
            Check.due("refused tell()", x.tell(0, what, 100), BAD);
            Check.due("number() behind a refused tell()", x.number(), 5);
            Check.due("tell(0, " + what + ", 0), the same", x.tell(0, what, 0), 0);
            Check.due("number() behind tell " + what, x.number(), what == 3 ? 5 : STATE);
        }
    }

    private static void ofTellsEach() {
        BracketDraws x = Calls.with("c5r3s8x99");
        Check.due("of(0, 0)", x.of(0, 0), 5);
        Check.due("of(0, 1)", x.of(0, 1), 3);
        Check.due("of(0, 2)", x.of(0, 2), 8);
        Check.due("of(0, 3)", x.of(0, 3), 99);
        Check.due("of(0, 4)", x.of(0, 4), NOT);
        Check.due("of(0, 5)", x.of(0, 5), BAD);
        Check.due("of(0, -1)", x.of(0, -1), BAD);
        Check.due("of(1, 0)", x.of(1, 0), BAD);
        Check.due("of(-1, 0)", x.of(-1, 0), BAD);
        Check.due("of(1, 4)", x.of(1, 4), BAD);
    }

    /** Places in 1 2; 1 4 2 3; 1 8 4 5 2 7 3 6; 1 16 8 9 4 13 5 12 2 15 7 10 3 14 6 11. */
    private static void seedSlots() {
        int[][] due = {
            {NOT, 0, 1, NOT, NOT, NOT, NOT, NOT, NOT},
            {NOT, 0, 2, 3, 1, NOT, NOT, NOT, NOT},
            {NOT, 0, 4, 6, 2, 3, 7, 5, 1},
            {NOT, 0, 8, 12, 4, 6, 14, 10, 2}};
        int[] rowFor = {0, 0, 0, 1, 1, 2, 2, 2, 2, 3, 3};
        BracketDraws x = new BracketDraws();
        for (int players = 1; players <= 10; players++) {
            x.player(0, 0, 0, 0);
            for (int seed = 0; seed <= 8; seed++) {
                x.tell(players - 1, 2, seed);
                Check.due("slot of seed " + seed + " with " + players, x.of(players - 1, 4),
                        due[rowFor[players]][seed]);
            }
            x.tell(players - 1, 2, 0);
        }
    }

    private static void levels() {
        BracketDraws x = Calls.plain(2);
        Check.due("level(0, 4)", x.level(0, 4), 1);
        Check.due("level(0, 0)", x.level(0, 0), 4);
        Check.due("level(1, 4)", x.level(1, 4), 0);
        Check.due("level(1, 2)", x.level(1, 2), 4);
        Check.due("count(5)", x.count(5), 0);
        Check.due("count(6)", x.count(6), 2);
        int[][] bad = {{-1, 0}, {2, 0}, {0, -1}, {0, 5}, {1, -1}, {1, 5}, {Integer.MIN_VALUE, Integer.MAX_VALUE}};
        x.take(1);
        for (int[] b : bad) {
            Check.due("level(" + b[0] + ", " + b[1] + ")", x.level(b[0], b[1]), BAD);
        }
        Check.due("number() behind refused ones", x.number(), 1);
        Check.due("level(0, 0), the same", x.level(0, 0), 0);
        Check.due("number() behind it", x.number(), STATE);
        x.take(1);
        Check.due("level(1, 2), the same", x.level(1, 2), 2);
        Check.due("number() behind it", x.number(), STATE);
        Check.due("count(8)", x.count(8), 8);
    }

    private static void feedTheTape() {
        BracketDraws x = new BracketDraws();
        Check.due("feed(31)", x.feed(31), BAD);
        Check.due("feed(127)", x.feed(127), BAD);
        Check.due("feed(-1)", x.feed(-1), BAD);
        Check.due("feed(32)", x.feed(32), 1);
        Check.due("feed(126)", x.feed(126), 2);
        for (int i = 3; i <= 120; i++) {
            Check.due("feed(120)", x.feed('x'), i);
        }
        Check.due("feed(120), the 121st", x.feed('x'), FULL);
        Check.due("feed(10), the 121st", x.feed(10), BAD);
        Check.due("count(7)", x.count(7), 120);
        Check.due("players()", x.players(), -100);
        Check.due("count(7)", x.count(7), 0);
        Check.due("feed(120)", x.feed('x'), 1);
    }

    private static void textsThatCome() {
        BracketDraws x = new BracketDraws();
        Check.due("players()", Calls.texted(x, "x07;s3c5;r0c0s0x0"), 3);
        int[][] due = {{0, 0, 0, 7}, {5, 0, 3, 0}, {0, 0, 0, 0}};
        for (int player = 0; player < 3; player++) {
            for (int what = 0; what < 4; what++) {
                Check.due("of(" + player + ", " + what + ")", x.of(player, what), due[player][what]);
            }
        }
        Check.due("players() of all orders", Calls.texted(x, "x99s8r3c5;s0;s0;c1x10r2"), 7);
        Check.due("of(3, 3)", x.of(3, 3), 99);
        Check.due("of(3, 2)", x.of(3, 2), 8);
        Check.due("of(6, 1)", x.of(6, 1), 2);
        Check.due("of(6, 3)", x.of(6, 3), 10);
        Check.due("players() till 10", Calls.texted(x, "x1;x2;x3"), 10);
    }

    private static void textsWithFaults() {
        String[] texts = {"", "c", "c6", "c1c2", "s1;s1", "x100", "c1;", "r4", "c1 ", "c12", "y1", "s9", ";", "c1;;",
            "c-1", "x", "xx", "x1x", "c1r1s1x1c", "c1r1s1x11;", "C1", "s1;c2;r1s1", "s1;s9s1", "c9;!", "cx", "x5 ",
            "r3c5;x99,", "s2s2", " c1", "1", "c1,c2", "c5r3s8x999", "s", "s8;s", "c1;x10;r", "x1;1"};
        int[] faults = {0, 1, 1, 2, 4, 3, 3, 1, 2, 2, 0, 1, 0, 3, 1, 1, 1, 2, 8, 10, 0, 9, 4, 1, 1, 2, 8, 2, 0, 0, 2, 9,
            1, 4, 8, 3};
        for (int i = 0; i < texts.length; i++) {
            BracketDraws x = new BracketDraws();
            Check.due("players() of \"" + texts[i] + "\"", Calls.texted(x, texts[i]), -100 - faults[i]);
            Check.due("count(0) behind \"" + texts[i] + "\"", x.count(0), 0);
            Check.due("count(7) behind \"" + texts[i] + "\"", x.count(7), 0);
        }
    }

    private static void textsWithSeedsAlready() {
        BracketDraws x = Calls.with("s4;s0");
        Check.due("players() of c1s4", Calls.texted(x, "c1s4"), -103);
        Check.due("players() of s0;s4", Calls.texted(x, "s0;s4"), -104);
        Check.due("players() of s5;s6s", Calls.texted(x, "s5;s6s"), -105);
        Check.due("players() of s5;s6", Calls.texted(x, "s5;s6"), 4);
        Check.due("players() of s6!", Calls.texted(x, "s6!"), -101);
    }

    private static void textsOfTooMany() {
        BracketDraws x = Calls.plain(8);
        Check.due("11th in the text", Calls.texted(x, "x1;x2;x3"), -106);
        Check.due("11th where it would begin", Calls.texted(x, "x1;x23;"), -107);
        Check.due("11th, whatever stands there", Calls.texted(x, "x1;x2;!!"), -106);
        Check.due("a fault ahead of the 11th", Calls.texted(x, "x1;y2;x3"), -103);
        Check.due("the 9th alone, too short", Calls.texted(x, "x1;"), -103);
        Check.due("count(0)", x.count(0), 8);
        Check.due("two more", Calls.texted(x, "x1;x2"), 10);
        Check.due("with 10 already", Calls.texted(x, "x1"), -100);
        Check.due("with 10 already, an empty text", x.players(), -100);
        Check.due("with 10 already, nonsense", Calls.texted(x, "c9"), -100);
        BracketDraws all = new BracketDraws();
        Check.due("ten at once", Calls.texted(all, "c1r1s1x11;c1r1s2x11;c1r1s3x11;c1r1s4x11;c1r1s5x11;"
                + "c1r1s6x11;c1r1s7x11;c1r1s8x11;c1r1s0x11;c1r1x11"), 10);
    }

    private static void faultChangesNothing() {
        BracketDraws x = Calls.plain(3);
        x.tell(0, 3, 9);
        x.take(2);
        x.play();
        x.undo();
        Check.due("players() with a fault", Calls.texted(x, "c1;c2;c"), -107);
        Check.due("count(0)", x.count(0), 3);
        Check.due("number()", x.number(), 2);
        Check.due("count(8)", x.count(8), 2);
        Check.due("count(9)", x.count(9), 1);
        Check.due("redo()", x.redo(), 0);
        Check.due("players(), the tape is empty", x.players(), -100);
    }
}
