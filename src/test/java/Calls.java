/** What several tests do with an object: whole texts in, whole texts out, many players at once. */
final class Calls {
    private Calls() {
    }

    static BracketDraws with(String text) {
        BracketDraws x = new BracketDraws();
        Check.due("players() of " + text, texted(x, text), text.split(";").length);
        return x;
    }

    /** So many players of whom nothing is told. */
    static BracketDraws plain(int players) {
        BracketDraws x = new BracketDraws();
        for (int i = 0; i < players; i++) {
            Check.due("player()", x.player(0, 0, 0, 0), i);
        }
        return x;
    }

    static int texted(BracketDraws x, String text) {
        for (int i = 0; i < text.length(); i++) {
            x.feed(text.charAt(i));
        }
        return x.players();
    }

    static String printed(BracketDraws x) {
        StringBuilder text = new StringBuilder();
        int length = x.print(-1);
        for (int i = 0; i < length; i++) {
            text.append((char) x.print(i));
        }
        return text.toString();
    }

    static String brackets(BracketDraws x) {
        StringBuilder text = new StringBuilder();
        int length = x.brackets(-1);
        for (int i = 0; i < length; i++) {
            text.append((char) x.brackets(i));
        }
        return text.toString();
    }

    /** A new object with the same players and levels. */
    static BracketDraws anew(BracketDraws x) {
        BracketDraws other = new BracketDraws();
        for (int player = 0; player < x.count(0); player++) {
            int came = other.player(x.of(player, 0), x.of(player, 1), x.of(player, 2), x.of(player, 3));
            Check.due("player()", came, player);
        }
        other.level(0, x.count(5));
        other.level(1, x.count(6));
        return other;
    }

    /** All that there is but for the tape, changes and the image, in one text; by hand shows in the likely winner. */
    static String state(BracketDraws x) {
        StringBuilder text = new StringBuilder("counts");
        for (int what = 0; what < 7; what++) {
            text.append(' ').append(x.count(what));
        }
        for (int player = 0; player < x.count(0); player++) {
            text.append(", player");
            for (int what = 0; what < 4; what++) {
                text.append(' ').append(x.of(player, what));
            }
        }
        text.append(", draw ").append(x.number()).append(": ").append(printed(x));
        return text.append(", rounds ").append(brackets(x)).append(", winner ").append(x.winner()).toString();
    }
}
