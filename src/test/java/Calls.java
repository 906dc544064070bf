/** What several tests do with an object: whole texts in, whole texts out, many players at once. */
final class Calls {
    private Calls() {
    }

    static BracketDraws with(String text) {
        BracketDraws x = new BracketDraws();
        Check.due("players() of " + text, texted(x, text), text.split(";").length);
        return x;
    }

    /** So many players of whom nothing is told. */
    static BracketDraws plain(int players) {
        BracketDraws x = new BracketDraws();
        for (int i = 0; i < players; i++) {
            Check.due("player()", x.player(0, 0, 0, 0), i);
        }
        return x;
    }

    static int texted(BracketDraws x, String text) {
        for (int i = 0; i < text.length(); i++) {
            x.feed(text.charAt(i));
        }
        return x.players();
    }

    static String printed(BracketDraws x) {
        StringBuilder text = new StringBuilder();
        for (int i = 0; i < x.print(-1); i++) {
            text.append((char) x.print(i));
        }
        return text.toString();
    }

    static String brackets(BracketDraws x) {
        StringBuilder text = new StringBuilder();
        for (int i = 0; i < x.brackets(-1); i++) {
            text.append((char) x.brackets(i));
        }
        return text.toString();
    }
}
