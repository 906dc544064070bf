/** Promises 6 and 7 at their edges, sentence by sentence: the tape, texts of players, their faults. */
public final class TextsEdgesTest {
    private static final int BAD = -1, FULL = -3, STATE = -5;
    private static final int MIN = Integer.MIN_VALUE, MAX = Integer.MAX_VALUE;
    private static final String TEN_LONGEST = "c1r1s1x11;c1r1s2x11;c1r1s3x11;c1r1s4x11;c1r1s5x11;c1r1s6x11;c1r1s7x11;"
            + "c1r1s8x11;c1r1s0x11;c1r1s0x11";

    public static void main(String[] args) {
        Check.all(TextsEdgesTest.class);
    }

    /** A text on a new object: the fault's place is due, and nobody comes. */
    private static void fault(String text, int place) {
        fault(new BracketDraws(), text, place);
    }

    private static void fault(BracketDraws x, String text, int place) {
        int before = x.count(0);
        Check.due("players() of '" + text + "'", Calls.texted(x, text), -100 - place);
        Check.due("count(0) behind '" + text + "'", x.count(0), before);
        Check.due("count(7) behind '" + text + "'", x.count(7), 0);
    }

    private static void come(String text, int players) {
        Check.due("players() of '" + text + "'", Calls.texted(new BracketDraws(), text), players);
    }

    // ---- promise 6

    /** Promise 6: "A byte (32 .. 126) comes to THE TAPE: how many it has." */
    static void promise6BytesAre32To126() {
        for (int letter = 32; letter <= 126; letter++) {
            BracketDraws x = new BracketDraws();
            Check.due("feed(" + letter + ")", x.feed(letter), 1);
            Check.due("feed(" + letter + ") again", x.feed(letter), 2);
            Check.due("count(7)", x.count(7), 2);
        }
        BracketDraws x = new BracketDraws();
        for (int letter : new int[] {31, 127, 0, -1, 10, 256 + 'c', MIN, MIN + 'c', MAX}) {
            Check.due("feed(" + letter + ")", x.feed(letter), BAD);
            Check.due("count(7)", x.count(7), 0);
        }
    }

    /** Promise 6: "BAD, FULL." "A TEXT by THE TAPE (120 bytes at most)" BAD is ahead of FULL. */
    static void promise6The121stIsFull() {
        BracketDraws x = new BracketDraws();
        for (int bytes = 1; bytes <= 120; bytes++) {
            Check.due("feed('c')", x.feed('c'), bytes);
        }
        Check.due("the 121st", x.feed('c'), FULL);
        Check.due("the 121st, too small", x.feed(31), BAD);
        Check.due("the 121st, too large", x.feed(127), BAD);
        Check.due("count(7)", x.count(7), 120);
        x.players();
        Check.due("feed() on the empty tape", x.feed('c'), 1);
    }

    /** Promise 6: "THE TAPE (120 bytes at most)" It holds them all, and in their order. */
    static void promise6All120AreRead() {
        BracketDraws x = new BracketDraws();
        String text = TEN_LONGEST.substring(0, 89);
        Check.due("nine of them", Calls.texted(x, text), 9);
        BracketDraws full = new BracketDraws();
        String all = TEN_LONGEST + ";" + "x1;x2;x3;x4;x5;x6;x7";
        Check.due("bytes", all.length(), 120);
        Check.due("players() of 120 bytes", Calls.texted(full, all), -200);
        Check.due("players() again", full.players(), -100);
    }

    /** Promises 6, 7: "it stays just where that is said." No call but players() reads the tape or empties it. */
    static void promises6And7TheTapeStays() {
        BracketDraws x = Calls.plain(2);
        x.feed('c');
        x.feed('4');
        x.image();
        x.player(0, 0, 0, 0);
        x.player(9, 0, 0, 0);
        x.tell(0, 3, 5);
        x.level(0, 0);
        x.howMany();
        x.take(0);
        x.drawn(1);
        x.byHand(0);
        x.play();
        x.print(0);
        x.brackets(0);
        x.undo();
        x.redo();
        x.relaxed(1);
        x.feed(127);
        x.back();
        Check.due("count(7)", x.count(7), 2);
        Check.due("players()", x.players(), 3);
        Check.due("of(2, 0)", x.of(2, 0), 4);
    }

    // ---- promise 7: texts that come

    /** Promise 7: "THE TAPE, which is empty then, is a TEXT of PLAYERS, that come: how many PLAYERS there are" */
    static void promise7HowManyThereAre() {
        BracketDraws x = Calls.plain(3);
        Check.due("players() of 2 more", Calls.texted(x, "c1;c2"), 5);
        Check.due("count(7)", x.count(7), 0);
        Check.due("of(3, 0)", x.of(3, 0), 1);
        Check.due("of(4, 0)", x.of(4, 0), 2);
        Check.due("players() of 5 more, the last that fit", Calls.texted(x, "x1;x2;x3;x4;x5"), 10);
        Check.due("of(9, 3)", x.of(9, 3), 5);
    }

    /** Promise 7: "PLAYER { ; PLAYER }" One alone, ten; but no ; ahead of the first, behind the last, and no two. */
    static void promise7PlayersWithSemicolonsBetween() {
        come("c1", 1);
        come("c1;c1", 2);
        come("x1;x1;x1;x1;x1;x1;x1;x1;x1;x1", 10);
        come(TEN_LONGEST, 10);
        fault(";", 0);
        fault(";c1", 0);
        fault("c1;", 3);
        fault("c1;;c1", 3);
        fault("c1,c1", 2);
        fault("c1:c1", 2);
        fault("c1<c1", 2);
        fault("c1 ;c1", 2);
        fault("c1; c1", 3);
    }

    /**
     * Promise 7: "PLAYER: c and a figure, r and a figure, s and a figure, x and one or two figures (CLUB, REGION, SEED,
     * STRENGTH)"
     */
    static void promise7LettersAndFigures() {
        String letters = "crsx";
        for (int what = 0; what < 4; what++) {
            BracketDraws x = new BracketDraws();
            Check.due("players()", Calls.texted(x, letters.charAt(what) + "3"), 1);
            for (int i = 0; i < 4; i++) {
                Check.due("of(0, " + i + ") behind " + letters.charAt(what), x.of(0, i), i == what ? 3 : 0);
            }
        }
        for (char letter = 32; letter <= 126; letter++) {
            if (letters.indexOf(letter) < 0) {
                fault(letter + "1", 0);
                fault("x1;" + letter + "1", 3);
            }
        }
    }

    /**
     * Promise 7: "c and a figure, r and a figure, s and a figure, x and one or two figures" Of 48 .. 57; none, one too
     * many.
     */
    static void promise7Figures() {
        for (String letter : new String[] {"c", "r", "s", "x"}) {
            fault(letter, 1);
            fault(letter + letter, 1);
            fault(letter + "/", 1);
            fault(letter + ":", 1);
            fault(letter + "-1", 1);
            fault(letter + " 1", 1);
            fault(letter + ";", 1);
            fault(letter + "1/", 2);
            fault(letter + "1:", 2);
            come(letter + "0", 1);
        }
        fault("c11", 2);
        fault("r11", 2);
        fault("s11", 2);
        fault("c00", 2);
        come("x11", 1);
        for (int v = 0; v <= 99; v++) {
            BracketDraws x = Calls.with("x" + v / 10 + v % 10);
            Check.due("of(0, 3)", x.of(0, 3), v);
        }
        for (int v = 0; v <= 9; v++) {
            BracketDraws x = Calls.with("x" + v + ";x1");
            Check.due("of(0, 3), one figure", x.of(0, 3), v);
        }
    }

    /** Promise 7: "each of them once at most, in any order, at least one" */
    static void promise7AnyOrder() {
        for (int i = 0; i < 256; i++) {
            String text = "";
            for (int k = 0; k < 4; k++) {
                String letter = "crsx".substring(i >> 2 * k & 3, (i >> 2 * k & 3) + 1);
                text += text.contains(letter) ? "" : letter + (1 + "crsx".indexOf(letter) % 3);
            }
            BracketDraws x = Calls.with(text);
            for (int what = 0; what < 4; what++) {
                boolean told = text.indexOf("crsx".charAt(what)) >= 0;
                Check.due("of(0, " + what + ") behind " + text, x.of(0, what), told ? 1 + what % 3 : 0);
            }
        }
        fault("", 0);
        fault("c1;", 3);
    }

    /** Promise 7: "what isn't told is 0." Also behind one of whom all is told. */
    static void promise7WhatIsNotToldIs0() {
        BracketDraws x = Calls.with("c5r3s8x99;c1;r1;s1;x1");
        for (int player = 1; player < 5; player++) {
            for (int what = 0; what < 4; what++) {
                Check.due("of(" + player + ", " + what + ")", x.of(player, what), player == what + 1 ? 1 : 0);
            }
        }
    }

    /** Promise 7: "as soon as a PLAYER comes" there is no draw and there are no changes, also by a text. */
    static void promise7NoDrawNoChangesThen() {
        BracketDraws x = Calls.plain(3);
        x.take(2);
        x.play();
        x.undo();
        Check.due("players()", Calls.texted(x, "c1"), 4);
        Check.due("number()", x.number(), STATE);
        Check.due("undo()", x.undo(), STATE);
        Check.due("redo()", x.redo(), STATE);
    }

    // ---- promise 7: faults

    /** Promise 7: "-100 less the FAULT." From place 0 to the place behind ten of the longest players. */
    static void promise7Minus100LessTheFault() {
        fault("!", 0);
        fault("c!", 1);
        fault(TEN_LONGEST.substring(0, 97), 97);
        fault(TEN_LONGEST + "1", 99);
        fault(TEN_LONGEST + ";", 100);
    }

    /**
     * Promise 7: "FAULT: of a number that may not be" its place, where it begins: the greatest that may be and one
     * more.
     */
    static void promise7ANumberThatMayNotBe() {
        come("c5", 1);
        fault("c6", 1);
        fault("c9", 1);
        come("r3", 1);
        fault("r4", 1);
        fault("r9", 1);
        come("s8", 1);
        fault("s9", 1);
        come("x99", 1);
        fault("x1c6", 3);
        fault("x11c6", 4);
        fault("x11;r4", 5);
        fault("c60", 1);
        fault("s99", 1);
    }

    /** Promise 7: "a letter that stands in this PLAYER already" its place; in another player it may stand. */
    static void promise7ALetterThatStandsAlready() {
        fault("c1c1", 2);
        fault("r1r2", 2);
        fault("s1s2", 2);
        fault("x1x2", 2);
        fault("x12x3", 3);
        fault("c1r1s1x1c1", 8);
        fault("c0c0", 2);
        fault("c1;r1c1r1", 7);
        come("c1;c1;c1", 3);
        come("c1r1s1x1;x1s2r1c1", 2);
    }

    /**
     * Promise 7: "a letter that stands in this PLAYER already" Its place, also if no figure or a wrong one is behind
     * it.
     */
    static void promise7ALetterThatStandsAlreadyAlone() {
        fault("c1c", 2);
        fault("c1c9", 2);
        fault("x1x;", 2);
        fault("s1s1", 2);
    }

    /**
     * Promise 7: "a SEED that another one has (in the TEXT or already): its place (of a number where it begins; of a
     * SEED, too)"
     */
    static void promise7ASeedThatAnotherOneHas() {
        fault("s1;s1", 4);
        fault("s8;c1;s7;x10s8", 13);
        fault("s1;c1s1x1", 6);
        BracketDraws x = Calls.with("s4;s5");
        fault(x, "s4", 1);
        fault(x, "x99s5", 4);
        fault(x, "s6;s5", 4);
        x.tell(0, 2, 0);
        Check.due("players() of s4, free by now", Calls.texted(x, "s4"), 3);
    }

    /** Promise 7: "SEED 0 may be told of several" in a text, too; the seeds of a text with a fault are free. */
    static void promise7SeedsThatAreFree() {
        come("s0;s0;s0", 3);
        BracketDraws x = Calls.with("s0");
        Check.due("players() of s0;s0", Calls.texted(x, "s0;s0"), 3);
        fault(x, "s3;s9", 4);
        Check.due("players() of s3", Calls.texted(x, "s3"), 4);
    }

    /** Promise 7: "of an 11th PLAYER: where it would begin" The 10th is the last that fits. */
    static void promise7AnEleventh() {
        for (int players = 0; players <= 9; players++) {
            StringBuilder text = new StringBuilder("x1");
            for (int i = players + 1; i < 10; i++) {
                text.append(";x1");
            }
            BracketDraws x = Calls.plain(players);
            fault(x, text + ";x1", text.length() + 1);
            fault(x, text + ";", text.length() + 1);
            fault(x, text + ";;", text.length() + 1);
            fault(x, text + ";!", text.length() + 1);
            fault(x, text + ";c9", text.length() + 1);
            fault(x, text + "!", text.length());
            Check.due("players() of " + text, Calls.texted(x, text.toString()), 10);
        }
    }

    /** Promise 7: "otherwise the first byte with which no TEXT goes on; the length, if it ends too early." */
    static void promise7TheFirstByteOrTheLength() {
        fault("c1 ", 2);
        fault("c1y", 2);
        fault("c1C1", 2);
        fault("c1.", 2);
        fault("c", 1);
        fault("c1r", 3);
        fault("c1r1s", 5);
        fault("x", 1);
        fault("x12c", 4);
        fault("c1;x12;", 7);
        fault("c1r1s1x1;c", 10);
    }

    /** Promise 7: "With a FAULT nobody comes." Not even those ahead of it; draw, changes stay. */
    static void promise7WithAFaultNobodyComes() {
        BracketDraws x = Calls.with("x1;x2;x3");
        x.take(3);
        x.play();
        x.undo();
        String before = Calls.state(x);
        fault(x, "c1;c2;c3;c", 10);
        fault(x, "x1;x2;x3;x4;x5;x6;x7;x8", 21);
        Check.due("all", Calls.state(x), before);
        Check.due("count(8)", x.count(8), 1);
        Check.due("redo()", x.redo(), 0);
    }

    /**
     * Promise 7: "A TEXT is looked at from the left: the first byte that can't be there, or begins a number that may
     * not be, is the FAULT, whatever else is wrong"
     */
    static void promise7FromTheLeft() {
        fault("c9!", 1);
        fault("c1!r9", 2);
        fault("c1r9c1", 3);
        fault("c1c9", 2);
        fault("s1;s1;s9;", 4);
        fault("s9;s1;s1", 1);
        fault("x100;c9", 3);
        fault("y;c9", 0);
        BracketDraws x = Calls.plain(9);
        fault(x, "c9;x1", 1);
        fault(x, "x1;c9", 3);
        fault(x, "x1x;x1", 2);
    }

    /** Promise 7: "with 10 PLAYERS already that is place 0, also of an empty TEXT" */
    static void promise7WithTenAlready() {
        BracketDraws x = Calls.plain(10);
        fault(x, "", 0);
        fault(x, "c1", 0);
        fault(x, "c1;c9", 0);
        fault(x, "!", 0);
        fault(x, ";", 0);
        fault(Calls.plain(9), "c1;", 3);
    }

    /** Promise 7: "a third figure of x is the first byte with which no TEXT goes on." */
    static void promise7AThirdFigureOfX() {
        fault("x100", 3);
        fault("x000", 3);
        fault("x999", 3);
        fault("c1x123s9", 5);
        fault("x1;x1234", 6);
    }

    /**
     * Promise 7: "THE TAPE is empty behind each call that reads it, by a FAULT and by all that is refused behind its
     * text, too"
     */
    static void promise7TheTapeIsEmptyThen() {
        BracketDraws x = new BracketDraws();
        Calls.texted(x, "c1");
        Check.due("count(7) behind a text", x.count(7), 0);
        Calls.texted(x, "c9");
        Check.due("count(7) behind a fault", x.count(7), 0);
        Check.due("players() of nothing", x.players(), -100);
        Check.due("players() of r1, nothing is ahead of it", Calls.texted(x, "r1"), 2);
        x = Calls.plain(10);
        Calls.texted(x, "c1");
        Check.due("count(7) behind an 11th", x.count(7), 0);
    }
}
