import java.util.ArrayList;
import java.util.Arrays;
import java.util.LinkedHashMap;
import java.util.List;
import java.util.Map;
import java.util.regex.Matcher;
import java.util.regex.Pattern;

/**
 * The document told a second time, plainly and slowly: whole states are kept for changes and images, draws are listed,
 * texts are printed whole. A call that would have to list too many draws answers UNTOLD; it must not be compared, nor
 * be made on the object under test.
 */
final class Reference {
    static final long UNTOLD = Long.MIN_VALUE;
    static final int BAD = -1, NOT = -2, FULL = -3, STATE = -5, BYE = 10;
    private static final int[] LARGEST = {5, 3, 8, 99};
    private static final Pattern TEXT = Pattern.compile(grammar());
    private static final Map<String, AllDraws> LISTED = new LinkedHashMap<>() {
        @Override
        protected boolean removeEldestEntry(Map.Entry<String, AllDraws> eldest) {
            return size() > 40;
        }
    };

    /** Never changed once it has been kept: each call that changes something works on a copy. */
    private static final class Kept {
        List<int[]> players = new ArrayList<>();
        int[] levels = {1, 0};
        int[] draw;
        long number;
        List<int[]> winners = new ArrayList<>();
        List<Integer> byHand = new ArrayList<>();

        Kept copy() {
            Kept copy = new Kept();
            for (int[] player : players) {
                copy.players.add(player.clone());
            }
            copy.levels = levels.clone();
            copy.draw = draw;
            copy.number = number;
            copy.winners.addAll(winners);
            copy.byHand.addAll(byHand);
            return copy;
        }

        void noDraw() {
            draw = null;
            winners.clear();
            byHand.clear();
        }
    }

    private Kept now = new Kept();
    private Kept image;
    private final List<Kept> past = new ArrayList<>();
    private final List<Kept> future = new ArrayList<>();
    private final StringBuilder tape = new StringBuilder();

    private int n() {
        return now.players.size();
    }

    private int slots() {
        return AllDraws.slotsFor(n());
    }

    private int rounds() {
        return Integer.numberOfTrailingZeros(slots());
    }

    private boolean is(int player) {
        return player >= 0 && player < n();
    }

    private boolean isRound(int round) {
        return round >= 1 && round <= rounds();
    }

    private boolean seedOfAnother(int seed, int player) {
        for (int other = 0; other < n(); other++) {
            if (seed != 0 && other != player && now.players.get(other)[2] == seed) {
                return true;
            }
        }
        return false;
    }

    private void change(Kept next) {
        past.add(now);
        if (past.size() > 10) {
            past.remove(0);
        }
        future.clear();
        now = next;
    }

    private void noChanges() {
        past.clear();
        future.clear();
    }

    // ---- players

    int player(int club, int region, int seed, int strength) {
        int[] told = {club, region, seed, strength};
        for (int what = 0; what < 4; what++) {
            if (told[what] < 0 || told[what] > LARGEST[what]) {
                return BAD;
            }
        }
        if (seedOfAnother(seed, -1)) {
            return BAD;
        }
        if (n() == 10) {
            return FULL;
        }
        now = now.copy();
        now.players.add(told);
        now.noDraw();
        noChanges();
        return n() - 1;
    }

    int tell(int player, int what, int v) {
        if (!is(player) || what < 0 || what > 3 || v < 0 || v > LARGEST[what]) {
            return BAD;
        }
        if (what == 2 && seedOfAnother(v, player)) {
            return BAD;
        }
        Kept next = now.copy();
        int before = next.players.get(player)[what];
        next.players.get(player)[what] = v;
        if (what < 3) {
            next.noDraw();
        }
        change(next);
        return before;
    }

    int of(int player, int what) {
        if (!is(player) || what < 0 || what > 4) {
            return BAD;
        }
        if (what < 4) {
            return now.players.get(player)[what];
        }
        int slot = AllDraws.seedSlot(now.players.get(player)[2], slots());
        return slot < 0 ? NOT : slot;
    }

    int level(int what, int v) {
        if (what < 0 || what > 1 || v < 0 || v > 4) {
            return BAD;
        }
        Kept next = now.copy();
        int before = next.levels[what];
        next.levels[what] = v;
        next.noDraw();
        change(next);
        return before;
    }

    int feed(int letter) {
        if (letter < 32 || letter > 126) {
            return BAD;
        }
        if (tape.length() == 120) {
            return FULL;
        }
        tape.append((char) letter);
        return tape.length();
    }

    int players() {
        String text = tape.toString();
        tape.setLength(0);
        int fault = fault(text);
        if (fault >= 0) {
            return -100 - fault;
        }
        now = now.copy();
        for (String one : text.split(";")) {
            now.players.add(new int[] {value(one, 'c'), value(one, 'r'), value(one, 's'), value(one, 'x')});
        }
        now.noDraw();
        noChanges();
        return n();
    }

    private static int value(String one, char letter) {
        Matcher found = Pattern.compile(letter + "(\\d+)").matcher(one);
        return found.find() ? Integer.parseInt(found.group(1)) : 0;
    }

    /** One player in every order of its letters, then as many players as one likes. */
    private static String grammar() {
        List<String> orders = new ArrayList<>();
        orders("", "crsx", orders);
        String player = "(?:" + String.join("|", orders) + ")";
        return player + "(?:;" + player + ")*";
    }

    private static void orders(String sofar, String left, List<String> orders) {
        if (!sofar.isEmpty()) {
            orders.add(sofar);
        }
        for (int i = 0; i < left.length(); i++) {
            String field = switch (left.charAt(i)) {
                case 'c' -> "c[0-5]";
                case 'r' -> "r[0-3]";
                case 's' -> "s[0-8]";
                default -> "x[0-9][0-9]?";
            };
            orders(sofar + field, left.substring(0, i) + left.substring(i + 1), orders);
        }
    }

    /** Whether some text begins so. */
    private static boolean goesOn(String start) {
        Matcher matcher = TEXT.matcher(start);
        return matcher.matches() || matcher.hitEnd();
    }

    private int fault(String text) {
        int players = n();
        List<Integer> seeds = new ArrayList<>();
        for (int[] player : now.players) {
            seeds.add(player[2]);
        }
        if (players == 10) {
            return 0;
        }
        for (int i = 0; i < text.length(); i++) {
            if (!goesOn(text.substring(0, i + 1))) {
                return i;
            }
            if (i > 0 && text.charAt(i - 1) == 's') {
                int seed = text.charAt(i) - '0';
                if (seed != 0 && seeds.contains(seed)) {
                    return i;
                }
                seeds.add(seed);
            }
            if (text.charAt(i) == ';' && ++players == 10) {
                return i + 1;
            }
        }
        return TEXT.matcher(text).matches() ? -1 : text.length();
    }

    // ---- draws

    private AllDraws listed(int[] levels) {
        int[][] rows = new int[n()][];
        StringBuilder key = new StringBuilder(Arrays.toString(levels));
        for (int i = 0; i < n(); i++) {
            rows[i] = Arrays.copyOf(now.players.get(i), 3);
            key.append(Arrays.toString(rows[i]));
        }
        return LISTED.computeIfAbsent(key.toString(), k -> new AllDraws(rows, levels[0], levels[1]));
    }

    /** Null, if they are too many to be listed. */
    private List<int[]> draws() {
        AllDraws all = listed(now.levels);
        return all.complete ? all.draws : null;
    }

    long howMany() {
        if (n() < 2) {
            return STATE;
        }
        return draws() == null ? UNTOLD : draws().size();
    }

    long stands(int player, int slot) {
        if (!is(player) || slot < 0 || slot >= slots()) {
            return BAD;
        }
        if (n() < 2) {
            return STATE;
        }
        return draws() == null ? UNTOLD : draws().stream().filter(draw -> draw[slot] == player).count();
    }

    private static int place(int[] draw, int player) {
        for (int slot = 0; slot < draw.length; slot++) {
            if (draw[slot] == player) {
                return slot;
            }
        }
        return -1;
    }

    private static int firstRound(int[] draw, int player, int other) {
        int round = 0;
        while (place(draw, player) >> round != place(draw, other) >> round) {
            round++;
        }
        return round;
    }

    long meets(int player, int other, int round) {
        if (!is(player) || !is(other) || player == other || !isRound(round)) {
            return BAD;
        }
        if (n() < 2) {
            return STATE;
        }
        return draws() == null ? UNTOLD
                : draws().stream().filter(draw -> firstRound(draw, player, other) == round).count();
    }

    long apart(int players, int round) {
        if (players < 0 || players >= 1 << n() || !isRound(round)) {
            return BAD;
        }
        if (n() < 2) {
            return STATE;
        }
        return draws() == null ? UNTOLD : draws().stream().filter(draw -> areApart(draw, players, round)).count();
    }

    private static boolean areApart(int[] draw, int players, int round) {
        for (int from = 0; from < draw.length; from += 1 << round) {
            if (Integer.bitCount(AllDraws.set(draw, from, from + (1 << round)) & players) > 1) {
                return false;
            }
        }
        return true;
    }

    private void takeIt(long number) {
        Kept next = now.copy();
        next.noDraw();
        next.draw = draws().get((int) number);
        next.number = number;
        change(next);
    }

    long take(long number) {
        if (n() < 2) {
            return STATE;
        }
        if (draws() == null) {
            return UNTOLD;
        }
        if (number < 0 || number >= draws().size()) {
            return NOT;
        }
        takeIt(number);
        return slots() - n();
    }

    long drawn(int z) {
        if (n() < 2) {
            return STATE;
        }
        if (draws() == null) {
            return UNTOLD;
        }
        if (draws().isEmpty()) {
            return NOT;
        }
        long wide = (long) z * 1103515245L + 12345L;
        long low = Math.floorMod(wide, 1L << 31);
        takeIt(low / 256 % draws().size());
        return now.number;
    }

    int slot(int slot) {
        if (slot < 0 || slot >= slots()) {
            return BAD;
        }
        return now.draw == null ? STATE : now.draw[slot];
    }

    int where(int player) {
        if (!is(player)) {
            return BAD;
        }
        return now.draw == null ? STATE : place(now.draw, player);
    }

    long number() {
        return now.draw == null ? STATE : now.number;
    }

    long swapped(int player, int other) {
        if (!is(player) || !is(other) || player == other) {
            return BAD;
        }
        if (now.draw == null) {
            return STATE;
        }
        int[] changed = now.draw.clone();
        changed[place(now.draw, player)] = other;
        changed[place(now.draw, other)] = player;
        int index = listed(now.levels).indexOf(changed);
        return index < 0 ? NOT : index;
    }

    int soonest(int player, int other) {
        if (!is(player) || !is(other) || player == other) {
            return BAD;
        }
        return now.draw == null ? STATE : firstRound(now.draw, player, other);
    }

    long relaxed(int done) {
        if (done != 0 && done != 1) {
            return BAD;
        }
        if (n() < 2) {
            return STATE;
        }
        int[] levels = now.levels.clone();
        while (listed(levels).draws.isEmpty()) {
            if (!listed(levels).complete) {
                return UNTOLD;
            }
            if (levels[1] > 0) {
                levels[1]--;
            } else if (levels[0] > 0) {
                levels[0]--;
            } else {
                return NOT;
            }
        }
        if (done == 1) {
            Kept next = now.copy();
            next.levels = levels;
            next.noDraw();
            change(next);
        }
        return 10 * levels[0] + levels[1];
    }

    // ---- rounds

    /** Who is in block k of a round, that has been played (0: who stands there). */
    private static int in(Kept kept, int round, int k) {
        return round == 0 ? kept.draw[k] : kept.winners.get(round - 1)[k];
    }

    private static void playOn(Kept kept) {
        int round = kept.winners.size();
        int[] winners = new int[kept.draw.length >> round + 1];
        for (int k = 0; k < winners.length; k++) {
            int a = in(kept, round, 2 * k);
            int b = in(kept, round, 2 * k + 1);
            winners[k] = a == BYE ? b : b == BYE ? a : better(kept, a, b);
            for (int told : kept.byHand) {
                if (told == a || told == b) {
                    winners[k] = told;
                }
            }
        }
        kept.winners.add(winners);
        kept.byHand.clear();
    }

    private static int better(Kept kept, int a, int b) {
        int one = kept.players.get(a)[3];
        int two = kept.players.get(b)[3];
        return one > two ? a : two > one ? b : Math.min(a, b);
    }

    private boolean over() {
        return now.winners.size() == rounds();
    }

    int play() {
        if (now.draw == null || over()) {
            return STATE;
        }
        Kept next = now.copy();
        playOn(next);
        change(next);
        return now.winners.size();
    }

    /** Whom a player meets in a round; -1, if it does not come so far. */
    private int opponent(int player, int round) {
        int k = place(now.draw, player) >> round - 1;
        return in(now, round - 1, k) == player ? in(now, round - 1, k ^ 1) : -1;
    }

    int byHand(int player) {
        if (!is(player)) {
            return BAD;
        }
        if (now.draw == null || over()) {
            return STATE;
        }
        int opponent = opponent(player, now.winners.size() + 1);
        if (opponent < 0) {
            return STATE;
        }
        Kept next = now.copy();
        next.byHand.add(player);
        change(next);
        return opponent;
    }

    int through(int round, int k) {
        if (!isRound(round) || k < 0 || k >= slots() >> round) {
            return BAD;
        }
        if (now.draw == null) {
            return STATE;
        }
        return round > now.winners.size() ? NOT : in(now, round, k);
    }

    int met(int player, int round) {
        if (!is(player) || !isRound(round)) {
            return BAD;
        }
        if (now.draw == null) {
            return STATE;
        }
        int opponent = round > now.winners.size() ? -1 : opponent(player, round);
        return opponent < 0 ? NOT : opponent;
    }

    int winner() {
        return now.draw == null ? STATE : winnerOf(now.copy());
    }

    private static int winnerOf(Kept trial) {
        while (trial.draw.length >> trial.winners.size() > 1) {
            playOn(trial);
        }
        return in(trial, trial.winners.size(), 0);
    }

    long wins(int player) {
        if (!is(player)) {
            return BAD;
        }
        if (n() < 2 || n() > 8) {
            return STATE;
        }
        if (draws() == null) {
            return UNTOLD;
        }
        long wins = 0;
        Kept trial = now.copy();
        for (int[] draw : draws()) {
            trial.noDraw();
            trial.draw = draw;
            wins += winnerOf(trial) == player ? 1 : 0;
        }
        return wins;
    }

    // ---- printed

    private static int byteOf(String text, int i) {
        return i == -1 ? text.length() : i < text.length() ? text.charAt(i) : NOT;
    }

    int print(int i) {
        if (i < -1) {
            return BAD;
        }
        if (now.draw == null) {
            return STATE;
        }
        StringBuilder text = new StringBuilder();
        for (int slot = 0; slot < now.draw.length; slot++) {
            text.append(slot == 0 ? "" : slot % 4 == 0 ? "|" : " ");
            text.append(now.draw[slot] == BYE ? "-" : String.valueOf(now.draw[slot]));
        }
        return byteOf(text.toString(), i);
    }

    int brackets(int i) {
        if (i < -1) {
            return BAD;
        }
        if (now.draw == null) {
            return STATE;
        }
        StringBuilder text = new StringBuilder();
        for (int[] winners : now.winners) {
            text.append(Arrays.toString(winners).replaceAll("[\\[\\] ]", "")).append(';');
        }
        return byteOf(text.toString(), i);
    }

    // ---- changes, the image

    int undo() {
        if (past.isEmpty()) {
            return STATE;
        }
        future.add(now);
        now = past.remove(past.size() - 1);
        return past.size();
    }

    int redo() {
        if (future.isEmpty()) {
            return STATE;
        }
        past.add(now);
        now = future.remove(future.size() - 1);
        return future.size();
    }

    int image() {
        image = now;
        return n();
    }

    int back() {
        if (image == null) {
            return STATE;
        }
        now = image;
        noChanges();
        return n();
    }

    int count(int what) {
        boolean enough = n() > 1;
        return switch (what) {
            case 0 -> n();
            case 1 -> enough ? slots() : 0;
            case 2 -> enough ? slots() - n() : 0;
            case 3 -> enough ? rounds() : 0;
            case 4 -> now.winners.size();
            case 5 -> now.levels[0];
            case 6 -> now.levels[1];
            case 7 -> tape.length();
            case 8 -> past.size();
            case 9 -> future.size();
            default -> BAD;
        };
    }
}
