import java.util.ArrayList;
import java.util.List;
import java.util.Random;
import java.util.function.LongSupplier;

/** Long runs of calls, drawn with fixed seeds, on the class and on the Reference: every answer must be the same. */
public final class RandomRunsTest {
    private static final int RUNS = 300, CALLS = 512;
    private static final int[] ODD = {Integer.MIN_VALUE, Integer.MAX_VALUE, -1, -2, 10, 16, 100, 1024, 1 << 30};

    private final Random random;
    private final int run;
    private final BracketDraws x = new BracketDraws();
    private final Reference due = new Reference();
    private final List<String> calls = new ArrayList<>();
    private final int clubs;
    private final int mostPlayers;

    private RandomRunsTest(int run) {
        this.run = run;
        random = new Random(run * 7919L + 17);
        clubs = random.nextInt(6);
        mostPlayers = 2 + random.nextInt(9);
    }

    public static void main(String[] args) {
        int from = args.length > 0 ? Integer.parseInt(args[0]) : 0;
        int runs = args.length > 1 ? Integer.parseInt(args[1]) : RUNS;
        for (int run = from; run < from + runs && Check.allRight(); run++) {
            new RandomRunsTest(run).go();
        }
        Check.end();
    }

    private void go() {
        int early = random.nextInt(4) == 0 ? 0 : mostPlayers;
        for (int i = 0; i < early; i++) {
            comePlayer();
        }
        while (calls.size() < CALLS && Check.allRight()) {
            step(random.nextInt(100));
        }
    }

    private void same(String call, LongSupplier wanted, LongSupplier got) {
        long want = wanted.getAsLong();
        if (want == Reference.UNTOLD) {
            calls.add("(left out)");
            return;
        }
        long answer = got.getAsLong();
        calls.add(call + " = " + answer);
        Check.due("run " + run + ", call " + calls.size() + ", " + call, answer, want);
        if (answer != want) {
            calls.forEach(System.out::println);
        }
    }

    private int upTo(int most) {
        return random.nextInt(40) == 0 ? ODD[random.nextInt(ODD.length)] : random.nextInt(most + 1);
    }

    private int anyPlayer() {
        return upTo(Math.max(0, due.count(0) - (random.nextInt(12) == 0 ? 0 : 1)));
    }

    private int anyRound() {
        return random.nextInt(15) == 0 ? upTo(6) : 1 + upTo(Math.max(0, due.count(3) - 1));
    }

    private int anySeed() {
        return random.nextInt(2) == 0 ? 0 : upTo(8);
    }

    /** With many players many seeds, or there were too many draws to be listed. */
    private int comingSeed() {
        return mostPlayers > 8 ? Math.min(8, due.count(0) + 1) : anySeed();
    }

    private void comePlayer() {
        int club = Math.min(upTo(5), clubs);
        int region = upTo(3);
        int seed = random.nextInt(8) == 0 ? 0 : comingSeed();
        int strength = random.nextInt(3) == 0 ? 50 : upTo(99);
        same("player(" + club + "," + region + "," + seed + "," + strength + ")",
                () -> due.player(club, region, seed, strength), () -> x.player(club, region, seed, strength));
    }

    private void step(int kind) {
        if (kind < 3) {
            if (due.count(0) < mostPlayers || random.nextInt(5) == 0) {
                comePlayer();
            }
        } else if (kind < 15) {
            changeEntries(kind);
        } else if (kind < 20) {
            comeText();
        } else if (kind < 40) {
            askCounts(kind);
        } else if (kind < 62) {
            askDraw(kind);
        } else if (kind < 84) {
            askRounds(kind);
        } else {
            askRest(kind);
        }
    }

    private void changeEntries(int kind) {
        int player = anyPlayer();
        if (kind < 9) {
            int what = random.nextInt(3) == 0 ? upTo(4) : 3;
            int v = what == 2 ? anySeed() : what == 3 ? upTo(99) : upTo(what == 0 ? clubs : 3);
            same("tell(" + player + "," + what + "," + v + ")", () -> due.tell(player, what, v),
                    () -> x.tell(player, what, v));
        } else if (kind < 12) {
            int what = upTo(4);
            same("of(" + player + "," + what + ")", () -> due.of(player, what), () -> x.of(player, what));
        } else if (kind < 14) {
            int what = upTo(1);
            int v = random.nextInt(2) == 0 ? upTo(1) : upTo(4);
            same("level(" + what + "," + v + ")", () -> due.level(what, v), () -> x.level(what, v));
        } else {
            int done = upTo(1);
            same("relaxed(" + done + ")", () -> due.relaxed(done), () -> x.relaxed(done));
        }
    }

    private void comeText() {
        if (random.nextInt(3) != 0) {
            return;
        }
        for (char letter : someText().toCharArray()) {
            if (calls.size() < CALLS - 1) {
                same("feed(" + (int) letter + ")", () -> due.feed(letter), () -> x.feed(letter));
            }
        }
        if (random.nextInt(5) != 0) {
            same("players()", due::players, x::players);
        }
    }

    /** A text, mostly with a fault: otherwise the players would be ten too soon. */
    private String someText() {
        StringBuilder text = new StringBuilder();
        int players = 1 + random.nextInt(3);
        for (int i = 0; i < players; i++) {
            text.append(i == 0 ? "" : ";");
            int fields = 1 + random.nextInt(3);
            for (int field = 0; field < fields; field++) {
                text.append("crsx".charAt(random.nextInt(4))).append(random.nextInt(5));
                text.append(random.nextInt(6) == 0 ? String.valueOf(random.nextInt(10)) : "");
            }
        }
        if (random.nextInt(4) != 0) {
            text.insert(random.nextInt(text.length() + 1), "c9 r;s8x-~04".charAt(random.nextInt(12)));
        }
        return text.toString();
    }

    private void askCounts(int kind) {
        int player = anyPlayer();
        int other = anyPlayer();
        int round = anyRound();
        int slot = upTo(Math.max(1, due.count(1) - 1));
        int set = random.nextInt(30) == 0 ? upTo(1023) : random.nextInt(1 << due.count(0));
        if (kind < 24) {
            same("howMany()", due::howMany, x::howMany);
        } else if (kind < 29) {
            same("stands(" + player + "," + slot + ")", () -> due.stands(player, slot), () -> x.stands(player, slot));
        } else if (kind < 33) {
            same("meets(" + player + "," + other + "," + round + ")", () -> due.meets(player, other, round),
                    () -> x.meets(player, other, round));
        } else if (kind < 38) {
            same("apart(" + set + "," + round + ")", () -> due.apart(set, round), () -> x.apart(set, round));
        } else {
            same("wins(" + player + ")", () -> due.wins(player), () -> x.wins(player));
        }
    }

    private void askDraw(int kind) {
        int player = anyPlayer();
        int other = anyPlayer();
        int slot = upTo(Math.max(1, due.count(1) - 1));
        if (kind < 45) {
            long all = due.howMany();
            long number = all > 0 && random.nextInt(6) != 0 ? random.nextInt((int) Math.min(all, 45_000)) : upTo(3);
            same("take(" + number + ")", () -> due.take(number), () -> x.take(number));
        } else if (kind < 49) {
            int z = random.nextInt();
            same("drawn(" + z + ")", () -> due.drawn(z), () -> x.drawn(z));
        } else if (kind < 52) {
            same("slot(" + slot + ")", () -> due.slot(slot), () -> x.slot(slot));
        } else if (kind < 54) {
            same("where(" + player + ")", () -> due.where(player), () -> x.where(player));
        } else if (kind < 55) {
            same("number()", due::number, x::number);
        } else if (kind < 59) {
            same("swapped(" + player + "," + other + ")", () -> due.swapped(player, other),
                    () -> x.swapped(player, other));
        } else {
            same("soonest(" + player + "," + other + ")", () -> due.soonest(player, other),
                    () -> x.soonest(player, other));
        }
    }

    private void askRounds(int kind) {
        int player = anyPlayer();
        int round = anyRound();
        int k = upTo(Math.max(0, (due.count(1) >> Math.min(4, Math.max(0, round))) - (random.nextInt(9) == 0 ? 0 : 1)));
        if (kind < 67) {
            same("play()", due::play, x::play);
        } else if (kind < 71) {
            same("byHand(" + player + ")", () -> due.byHand(player), () -> x.byHand(player));
        } else if (kind < 76) {
            same("through(" + round + "," + k + ")", () -> due.through(round, k), () -> x.through(round, k));
        } else if (kind < 81) {
            same("met(" + player + "," + round + ")", () -> due.met(player, round), () -> x.met(player, round));
        } else {
            same("winner()", due::winner, x::winner);
        }
    }

    private void askRest(int kind) {
        if (kind < 86) {
            int i = upTo(33) - 1;
            same("print(" + i + ")", () -> due.print(i), () -> x.print(i));
        } else if (kind < 88) {
            int i = upTo(32) - 1;
            same("brackets(" + i + ")", () -> due.brackets(i), () -> x.brackets(i));
        } else if (kind < 92) {
            same("undo()", due::undo, x::undo);
        } else if (kind < 95) {
            same("redo()", due::redo, x::redo);
        } else if (kind < 96) {
            same("image()", due::image, x::image);
        } else if (kind < 97) {
            if (random.nextInt(3) == 0) {
                same("back()", due::back, x::back);
            }
        } else {
            int what = upTo(9);
            same("count(" + what + ")", () -> due.count(what), () -> x.count(what));
        }
    }
}
