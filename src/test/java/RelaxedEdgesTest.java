/** Promise 19 at its edges, sentence by sentence: protections relaxed one by one till there is a draw. */
public final class RelaxedEdgesTest {
    private static final int BAD = -1, NOT = -2, STATE = -5;
    private static final int MIN = Integer.MIN_VALUE, MAX = Integer.MAX_VALUE;
    /** Seed 4 stands where a bye has to be: no level helps. */
    private static final String HOPELESS = "s1;s4;x1";

    public static void main(String[] args) {
        Check.all(RelaxedEdgesTest.class);
    }

    private static BracketDraws levels(String text, int clubs, int regions) {
        BracketDraws x = Calls.with(text);
        x.level(0, clubs);
        x.level(1, regions);
        return x;
    }

    private static void relaxed(String text, int clubs, int regions, int due) {
        String call = "of " + text + " with levels " + clubs + " and " + regions;
        Check.due("relaxed(0) " + call, levels(text, clubs, regions).relaxed(0), due);
        BracketDraws x = levels(text, clubs, regions);
        Check.due("relaxed(1) " + call, x.relaxed(1), due);
        Check.due("count(5), " + call, x.count(5), due == NOT ? clubs : due / 10);
        Check.due("count(6), " + call, x.count(6), due == NOT ? regions : due % 10);
        Check.due("count(8), " + call, x.count(8), due == NOT ? 2 : 3);
    }

    /**
     * Promise 19: "RELAXED: 10 times LEVEL of CLUBS and LEVEL of REGIONS behind it" From 0 to 44, if there is a draw.
     */
    static void promise19TenTimesClubsAndRegions() {
        for (int clubs = 0; clubs <= 4; clubs++) {
            for (int regions = 0; regions <= 4; regions++) {
                relaxed("x1;x1", clubs, regions, 10 * clubs + regions);
                relaxed("c1r1;c2r2;c3r3", clubs, regions, 10 * clubs + regions);
            }
        }
    }

    /**
     * Promise 19: "RELAXED: as long as there is no DRAW:" It ends with the first levels that have one, not before, not
     * later.
     */
    static void promise19AsLongAsThereIsNoDraw() {
        // two of one group may be kept apart in all rounds but the last, which is by one greater each time
        String[] others = {"", ";x1;x1", ";x1;x1;x1", ";x1;x1;x1;x1;x1;x1;x1"};
        for (int most = 0; most < others.length; most++) {
            for (int level = 0; level <= 4; level++) {
                relaxed("r1;r1" + others[most], 0, level, Math.min(level, most));
                relaxed("c1;c1" + others[most], level, 0, 10 * Math.min(level, most));
            }
        }
    }

    /** Promise 19: "the LEVEL of REGIONS is one less, if it is above 0, else that of CLUBS, if this is" */
    static void promise19RegionsFirstThenClubs() {
        // the clubs alone stand against it: the regions go down to 0 all the same
        relaxed("c1;c1;x1;x1", 2, 4, 10);
        relaxed("c1;c1;x1;x1", 2, 1, 10);
        relaxed("c1;c1;x1;x1", 4, 4, 10);
        relaxed("c1;c1", 1, 4, 0);
        // the regions alone stand against it: the clubs stay
        relaxed("r1;r1;x1;x1", 4, 4, 41);
        relaxed("r1;r1", 4, 1, 40);
        // there is just one draw then
        relaxed("c1r1s1;c1r1s2", 1, 2, 0);
        relaxed("c1s1;c1s4;c2s3;c2s2", 2, 3, 0);
        // both stand against it
        relaxed("c1r1;c1r1;x1;x1", 2, 2, 10);
        relaxed("c1r1;c1r1;x1;x1", 1, 2, 11);
        relaxed("c1r1;c1r1", 4, 4, 0);
        relaxed("c1r1;c1r1", 1, 1, 0);
    }

    /** Promise 19: "else nothing helps." "NOT: nothing helps (nothing is done then)." Levels above 0 stay, too. */
    static void promise19NothingHelps() {
        relaxed(HOPELESS, 0, 0, NOT);
        relaxed(HOPELESS, 1, 0, NOT);
        relaxed(HOPELESS, 0, 1, NOT);
        relaxed(HOPELESS, 4, 4, NOT);
    }

    /** Promise 19: "What was so relaxed is told, and done, if wanted." "(done 1: they become so; 0)." */
    static void promise19DoneIfWanted() {
        BracketDraws x = levels("c1r1;c1r1;x1;x1", 2, 3);
        Check.due("relaxed(0)", x.relaxed(0), 10);
        Check.due("count(5)", x.count(5), 2);
        Check.due("count(6)", x.count(6), 3);
        Check.due("howMany()", x.howMany(), 0);
        Check.due("relaxed(1)", x.relaxed(1), 10);
        Check.due("count(5)", x.count(5), 1);
        Check.due("count(6)", x.count(6), 0);
        Check.due("howMany()", x.howMany(), 16);
        Check.due("relaxed(1) again", x.relaxed(1), 10);
    }

    /** Promise 19: "relaxed() with done 0 changes nothing" Neither draw nor changes, undone ones among them. */
    static void promise19DoneZeroChangesNothing() {
        BracketDraws x = Calls.plain(4);
        x.take(5);
        x.play();
        x.byHand(0);
        x.undo();
        String before = Calls.state(x);
        Check.due("relaxed(0)", x.relaxed(0), 10);
        Check.due("all", Calls.state(x), before);
        Check.due("count(8)", x.count(8), 2);
        Check.due("count(9)", x.count(9), 1);
    }

    /** Promise 19: "with done 1 it is a CHANGE, and THE DRAW is none, also if nothing had to be RELAXED." */
    static void promise19DoneOneIsAChange() {
        BracketDraws x = Calls.plain(4);
        x.take(5);
        x.play();
        String before = Calls.state(x);
        Check.due("relaxed(1)", x.relaxed(1), 10);
        Check.due("number()", x.number(), STATE);
        Check.due("count(4)", x.count(4), 0);
        Check.due("count(8)", x.count(8), 3);
        Check.due("relaxed(1), without a draw", x.relaxed(1), 10);
        Check.due("count(8)", x.count(8), 4);
        x.undo();
        x.undo();
        Check.due("all, undone", Calls.state(x), before);
    }

    /** Promise 19: "BAD; STATE: fewer than 2 PLAYERS" BAD is ahead of STATE. */
    static void promise19Refused() {
        for (int players = 0; players <= 2; players++) {
            BracketDraws x = Calls.plain(players);
            for (int done : new int[] {-1, 2, 3, MIN, MIN + 1, MAX}) {
                Check.due("relaxed(" + done + ") of " + players, x.relaxed(done), BAD);
            }
            Check.due("relaxed(0) of " + players, x.relaxed(0), players < 2 ? STATE : 10);
            Check.due("count(8)", x.count(8), 0);
            Check.due("relaxed(1) of " + players, x.relaxed(1), players < 2 ? STATE : 10);
            Check.due("count(8)", x.count(8), players < 2 ? 0 : 1);
        }
    }
}
