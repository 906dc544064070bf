/** Draws for a knock-out. What each call promises stands in ../shared/DOC.md. */
public final class BracketDraws {
    public static final int BAD = -1, NOT = -2, FULL = -3, STATE = -5;

    private static final int MOST_PLAYERS = 10, MOST_SLOTS = 16, MOST_CLUB = 5, MOST_REGION = 3;
    private static final int MOST_SEED = 8, MOST_STRENGTH = 99, MOST_LEVEL = 4;
    private static final int CLUB = 0, REGION = 1, SEED = 2, STRENGTH = 3, SEED_SLOT = 4;
    private static final int BYE = 10, NONE = -1, UNKNOWN = -4, FAULTS = -100;
    private static final int MOST_BYTES = 120, MOST_WINS_PLAYERS = 8;

    private final Situation now = new Situation();
    private final Situation keptImage = new Situation();
    private final History history = new History();
    private final Text text = new Text();
    private final Counter counter = new Counter();
    private final Counter trial = new Counter();
    private final Numbering numbering = new Numbering();
    private final Entries eased = new Entries();
    private final Draw likely = new Draw();
    private boolean hasImage;
    /** What relaxed() answers, dear to find: kept as long as the counter counts for the same entries. */
    private int easing = UNKNOWN;

    public BracketDraws() {
    }

    // ---- players

    public int player(int club, int region, int seed, int strength) {
        Entries entries = now.entries;
        boolean lawful = entries.mayTell(NONE, CLUB, club) && entries.mayTell(NONE, REGION, region)
                && entries.mayTell(NONE, SEED, seed) && entries.mayTell(NONE, STRENGTH, strength);
        if (!lawful) {
            return BAD;
        }
        if (entries.many >= MOST_PLAYERS) {
            return FULL;
        }
        entries.add(club, region, seed, strength);
        startAnew();
        return entries.many - 1;
    }

    public int tell(int player, int what, int v) {
        Entries entries = now.entries;
        if (!entries.has(player) || !entries.mayTell(player, what, v)) {
            return BAD;
        }
        int before = entries.told(player, what);
        entries.put(player, what, v);
        if (what != STRENGTH) {
            now.draw.drop();
        }
        history.remember(now);
        return before;
    }

    public int of(int player, int what) {
        Entries entries = now.entries;
        if (!entries.has(player) || what < CLUB || what > SEED_SLOT) {
            return BAD;
        }
        if (what < SEED_SLOT) {
            return entries.told(player, what);
        }
        int seedSlot = entries.seedSlot(player);
        return seedSlot == NONE ? NOT : seedSlot;
    }

    public int level(int what, int v) {
        if (what < CLUB || what > REGION || v < 0 || v > MOST_LEVEL) {
            return BAD;
        }
        Entries entries = now.entries;
        int before = what == CLUB ? entries.clubLevel : entries.regionLevel;
        if (what == CLUB) {
            entries.clubLevel = v;
        } else {
            entries.regionLevel = v;
        }
        now.draw.drop();
        history.remember(now);
        return before;
    }

    public int feed(int letter) {
        if (letter < 32 || letter > 126) {
            return BAD;
        }
        return text.tape.add(letter) ? text.tape.length : FULL;
    }

    public int players() {
        int fault = text.read(now.entries);
        text.tape.length = 0;
        if (fault != NONE) {
            return FAULTS - fault;
        }
        now.entries.copyFrom(text.entries);
        startAnew();
        return now.entries.many;
    }

    // ---- draws

    public long howMany() {
        return now.entries.many < 2 ? STATE : allDraws();
    }

    public long stands(int player, int slot) {
        Entries entries = now.entries;
        if (!entries.has(player) || !entries.hasSlot(slot)) {
            return BAD;
        }
        if (entries.many < 2) {
            return STATE;
        }
        long all = allDraws();
        int seedSlot = entries.seedSlot(player);
        if (all == 0 || seedSlot != NONE) {
            return seedSlot == slot ? all : 0;
        }
        trial.begin(entries);
        return trial.pin(player, slot) ? trial.total() : 0;
    }

    public long meets(int player, int other, int round) {
        Entries entries = now.entries;
        if (!entries.hasBoth(player, other) || !entries.hasRound(round)) {
            return BAD;
        }
        if (entries.many < 2) {
            return STATE;
        }
        return watched((1 << player) | (1 << other), round - 1, round);
    }

    public long apart(int players, int round) {
        Entries entries = now.entries;
        if (players < 0 || players > entries.all() || !entries.hasRound(round)) {
            return BAD;
        }
        if (entries.many < 2) {
            return STATE;
        }
        return watched(players, round, NONE);
    }

    public int take(long number) {
        if (now.entries.many < 2) {
            return STATE;
        }
        if (number < 0 || number >= allDraws()) {
            return NOT;
        }
        takeNumbered(number);
        return now.entries.byes();
    }

    public long drawn(int z) {
        if (now.entries.many < 2) {
            return STATE;
        }
        long all = allDraws();
        if (all < 1) {
            return NOT;
        }
        int mixed = z * 1103515245 + 12345;
        int withoutSign = mixed & 0x7fffffff;
        long number = (withoutSign / 256) % all;
        takeNumbered(number);
        return number;
    }

    public int slot(int slot) {
        if (!now.entries.hasSlot(slot)) {
            return BAD;
        }
        return now.draw.taken ? now.draw.standing(slot) : STATE;
    }

    public int where(int player) {
        if (!now.entries.has(player)) {
            return BAD;
        }
        return now.draw.taken ? now.draw.slotOf(player) : STATE;
    }

    public long number() {
        return now.draw.taken ? now.draw.number : STATE;
    }

    public long swapped(int player, int other) {
        if (!now.entries.hasBoth(player, other)) {
            return BAD;
        }
        if (!now.draw.taken) {
            return STATE;
        }
        allDraws();
        long number = numbering.numberOfSwapped(counter, now.draw, player, other);
        return number == NONE ? NOT : number;
    }

    public int soonest(int player, int other) {
        if (!now.entries.hasBoth(player, other)) {
            return BAD;
        }
        return now.draw.taken ? now.draw.firstCommonRound(player, other) : STATE;
    }

    public int relaxed(int done) {
        if (done < 0 || done > 1) {
            return BAD;
        }
        if (now.entries.many < 2) {
            return STATE;
        }
        boolean helpNeeded = allDraws() == 0;
        if (easing == UNKNOWN) {
            easing = helpNeeded ? searchLevels() : now.entries.bothLevels();
        }
        if (easing != NOT && done == 1) {
            now.entries.clubLevel = easing / 10;
            now.entries.regionLevel = easing % 10;
            now.draw.drop();
            history.remember(now);
        }
        return easing;
    }

    // ---- rounds

    public int play() {
        if (!now.draw.canGoOn()) {
            return STATE;
        }
        now.draw.goOn(now.entries);
        history.remember(now);
        return now.draw.played;
    }

    public int byHand(int player) {
        if (!now.entries.has(player)) {
            return BAD;
        }
        if (!now.draw.canGoOn() || !now.draw.isIn(player, now.draw.played)) {
            return STATE;
        }
        now.draw.favour(player);
        history.remember(now);
        return now.draw.opponent(player, now.draw.played + 1);
    }

    public int through(int round, int k) {
        if (!now.entries.hasRound(round) || k < 0 || k >= now.entries.slots() >> round) {
            return BAD;
        }
        if (!now.draw.taken) {
            return STATE;
        }
        return round > now.draw.played ? NOT : now.draw.cameThrough(round, k);
    }

    public int met(int player, int round) {
        if (!now.entries.has(player) || !now.entries.hasRound(round)) {
            return BAD;
        }
        Draw draw = now.draw;
        if (!draw.taken) {
            return STATE;
        }
        boolean wasIn = round <= draw.played && draw.isIn(player, round - 1);
        return wasIn ? draw.opponent(player, round) : NOT;
    }

    public int winner() {
        if (!now.draw.taken) {
            return STATE;
        }
        likely.copyFrom(now.draw);
        for (int round = likely.played; round < likely.rounds; round++) {
            likely.goOn(now.entries);
        }
        return likely.cameThrough(likely.rounds, 0);
    }

    public long wins(int player) {
        if (!now.entries.has(player)) {
            return BAD;
        }
        if (now.entries.many < 2 || now.entries.many > MOST_WINS_PLAYERS) {
            return STATE;
        }
        // who beats each other one wins every draw: by strength alone nobody else can
        return now.entries.strongest() == player ? allDraws() : 0;
    }

    // ---- printed

    public int print(int i) {
        if (i < -1) {
            return BAD;
        }
        return now.draw.taken ? now.draw.printedByte(i) : STATE;
    }

    public int brackets(int i) {
        if (i < -1) {
            return BAD;
        }
        return now.draw.taken ? now.draw.bracketsByte(i) : STATE;
    }

    // ---- changes, the image

    public int undo() {
        if (history.at < 1) {
            return STATE;
        }
        history.step(now, -1);
        return history.at;
    }

    public int redo() {
        if (history.at >= history.top) {
            return STATE;
        }
        history.step(now, 1);
        return history.top - history.at;
    }

    public int image() {
        keptImage.copyFrom(now);
        hasImage = true;
        return now.entries.many;
    }

    public int back() {
        if (!hasImage) {
            return STATE;
        }
        now.copyFrom(keptImage);
        history.forget(now);
        return now.entries.many;
    }

    public int count(int what) {
        Entries entries = now.entries;
        boolean enough = entries.many >= 2;
        switch (what) {
            case 0:
                return entries.many;
            case 1:
                return enough ? entries.slots() : 0;
            case 2:
                return enough ? entries.byes() : 0;
            case 3:
                return enough ? entries.rounds() : 0;
            case 4:
                return now.draw.played;
            case 5:
                return entries.clubLevel;
            case 6:
                return entries.regionLevel;
            case 7:
                return text.tape.length;
            case 8:
                return history.at;
            case 9:
                return history.top - history.at;
            default:
                return BAD;
        }
    }

    /** A player came: neither a draw nor changes outlive that. */
    private void startAnew() {
        now.draw.drop();
        history.forget(now);
    }

    /** How many draws there are; the counter's rows then are those of the entries as they are. */
    private long allDraws() {
        if (!counter.isFor(now.entries)) {
            counter.begin(now.entries);
            counter.total();
            easing = UNKNOWN;
        }
        return counter.sum;
    }

    private long watched(int players, int apartRound, int togetherRound) {
        if (allDraws() == 0) {
            return 0;
        }
        trial.begin(now.entries);
        trial.rules.watch(players, apartRound, togetherRound);
        return trial.total();
    }

    private void takeNumbered(long number) {
        numbering.lay(counter, number, now.draw.came);
        now.draw.begin(number, now.entries);
        history.remember(now);
    }

    /** Both levels as they would have to be for a draw, or NOT. */
    private int searchLevels() {
        eased.copyFrom(now.entries);
        for (int step = 0; step < 2 * MOST_LEVEL; step++) {
            if (eased.regionLevel > 0) {
                eased.regionLevel--;
            } else if (eased.clubLevel > 0) {
                eased.clubLevel--;
            } else {
                return NOT;
            }
            trial.begin(eased);
            if (trial.total() > 0) {
                return eased.bothLevels();
            }
        }
        return NOT;
    }

    /** The players with what is told of them, and the levels. */
    private static final class Entries {
        int many;
        int clubLevel = 1;
        int regionLevel;
        final int[] rows = new int[MOST_PLAYERS * SEED_SLOT];

        void copyFrom(Entries other) {
            many = other.many;
            clubLevel = other.clubLevel;
            regionLevel = other.regionLevel;
            System.arraycopy(other.rows, 0, rows, 0, rows.length);
        }

        /** Strengths are left out: no draw depends on them. */
        boolean sameDraws(Entries other) {
            boolean same = many == other.many && clubLevel == other.clubLevel && regionLevel == other.regionLevel;
            for (int player = 0; same && player < many; player++) {
                same = told(player, CLUB) == other.told(player, CLUB)
                        && told(player, REGION) == other.told(player, REGION)
                        && told(player, SEED) == other.told(player, SEED);
            }
            return same;
        }

        boolean has(int player) {
            return player >= 0 && player < many;
        }

        boolean hasBoth(int player, int other) {
            return has(player) && has(other) && player != other;
        }

        int bothLevels() {
            return 10 * clubLevel + regionLevel;
        }

        boolean hasSlot(int slot) {
            return slot >= 0 && slot < slots();
        }

        boolean hasRound(int round) {
            return round >= 1 && round <= rounds();
        }

        int told(int player, int what) {
            return has(player) && what >= CLUB && what <= STRENGTH ? rows[player * SEED_SLOT + what] : 0;
        }

        void put(int player, int what, int v) {
            if (has(player) && what >= CLUB && what <= STRENGTH) {
                rows[player * SEED_SLOT + what] = v;
            }
        }

        void add(int club, int region, int seed, int strength) {
            if (many < MOST_PLAYERS) {
                many++;
                put(many - 1, CLUB, club);
                put(many - 1, REGION, region);
                put(many - 1, SEED, seed);
                put(many - 1, STRENGTH, strength);
            }
        }

        /** NONE as the player asks for one who is yet to come. */
        boolean mayTell(int player, int what, int v) {
            if (v < 0 || v > largest(what)) {
                return false;
            }
            for (int other = 0; what == SEED && v > 0 && other < many; other++) {
                if (other != player && told(other, SEED) == v) {
                    return false;
                }
            }
            return true;
        }

        static int largest(int what) {
            switch (what) {
                case CLUB:
                    return MOST_CLUB;
                case REGION:
                    return MOST_REGION;
                case SEED:
                    return MOST_SEED;
                case STRENGTH:
                    return MOST_STRENGTH;
                default:
                    return NONE;
            }
        }

        int all() {
            return (1 << many) - 1;
        }

        /** 2 also for fewer than 2 players, as the document wants it where a slot is asked for. */
        int slots() {
            int slots = 2;
            for (int size = 2; size < many && slots < MOST_SLOTS; size *= 2) {
                slots = size * 2;
            }
            return slots;
        }

        int rounds() {
            int slots = slots();
            int rounds = 1;
            for (int size = 2; size < slots; size *= 2) {
                rounds++;
            }
            return rounds;
        }

        int byes() {
            return slots() - many;
        }

        /** From the whole row back to the row for 1 slot: of each two numbers the second one is new. */
        int seedSlot(int player) {
            int left = told(player, SEED);
            int slots = slots();
            if (left < 1 || left > slots) {
                return NONE;
            }
            int seedSlot = 0;
            int weight = 1;
            for (int size = slots; size > 1; size /= 2) {
                if (left > size / 2) {
                    left = size + 1 - left;
                    seedSlot += weight;
                }
                weight *= 2;
            }
            return seedSlot;
        }

        boolean beats(int player, int other) {
            int more = told(player, STRENGTH) - told(other, STRENGTH);
            return more > 0 || (more == 0 && player < other);
        }

        int strongest() {
            int best = 0;
            for (int player = 1; player < many; player++) {
                if (beats(player, best)) {
                    best = player;
                }
            }
            return best;
        }
    }

    /**
     * The draw taken, with its rounds. Blocks are counted as in a heap: 1 is all, 2b and 2b + 1 are the halves of
     * block b, the slots come last, so that block k of round r is (slots >> r) + k. What is told by hand stands with
     * the block of its meeting, so that it can't be taken for one of a later round.
     */
    private static final class Draw {
        boolean taken;
        long number;
        int slots = 2;
        int rounds = 1;
        int played;
        final int[] came = new int[2 * MOST_SLOTS];
        final int[] hand = new int[MOST_SLOTS];

        void copyFrom(Draw other) {
            taken = other.taken;
            number = other.number;
            slots = other.slots;
            rounds = other.rounds;
            played = other.played;
            System.arraycopy(other.came, 0, came, 0, came.length);
            System.arraycopy(other.hand, 0, hand, 0, hand.length);
        }

        void drop() {
            taken = false;
            played = 0;
        }

        /** Who stands where has been laid into came by then. */
        void begin(long number, Entries entries) {
            taken = true;
            this.number = number;
            slots = entries.slots();
            rounds = entries.rounds();
            played = 0;
            for (int block = 0; block < hand.length; block++) {
                hand[block] = NONE;
            }
        }

        boolean canGoOn() {
            return taken && played < rounds;
        }

        int cameTo(int block) {
            return block >= 1 && block < came.length ? came[block] : BYE;
        }

        int standing(int slot) {
            return cameTo(slots + slot);
        }

        int cameThrough(int round, int k) {
            return round >= 1 && round <= rounds ? cameTo((slots >> round) + k) : BYE;
        }

        int slotOf(int player) {
            for (int slot = 0; slot < slots; slot++) {
                if (standing(slot) == player) {
                    return slot;
                }
            }
            return 0;
        }

        int firstCommonRound(int player, int other) {
            int differing = slotOf(player) ^ slotOf(other);
            int round = 0;
            while (round < rounds && differing >> round != 0) {
                round++;
            }
            return round;
        }

        /** The block of a round in which a player stands. */
        int blockOf(int player, int round) {
            return (slots + slotOf(player)) >> round;
        }

        /** Whether a player came through that round (0: all did). */
        boolean isIn(int player, int round) {
            return cameTo(blockOf(player, round)) == player;
        }

        /** Whom a player, who is in till then, meets in a round. */
        int opponent(int player, int round) {
            return cameTo(blockOf(player, round - 1) ^ 1);
        }

        void favour(int player) {
            int block = blockOf(player, played + 1);
            if (block >= 1 && block < hand.length) {
                hand[block] = player;
            }
        }

        void goOn(Entries entries) {
            if (!canGoOn()) {
                return;
            }
            int blocks = slots >> (played + 1);
            for (int block = blocks; block < 2 * blocks && block < hand.length; block++) {
                came[block] = comesThrough(block, entries);
            }
            played++;
        }

        int comesThrough(int block, Entries entries) {
            int first = cameTo(2 * block);
            int second = cameTo(2 * block + 1);
            if (first == BYE || second == BYE) {
                return first == BYE ? second : first;
            }
            int told = block >= 1 && block < hand.length ? hand[block] : NONE;
            if (told == first || told == second) {
                return told;
            }
            return entries.beats(first, second) ? first : second;
        }

        int printedByte(int i) {
            int length = 2 * slots - 1;
            if (i < 0 || i >= length) {
                return i < 0 ? length : NOT;
            }
            if (i % 2 == 0) {
                int who = standing(i / 2);
                return who == BYE ? '-' : '0' + who;
            }
            return (i / 2 + 1) % 4 == 0 ? '|' : ' ';
        }

        /** A round of b blocks takes 2b bytes: each winner has one sign behind it. */
        int bracketsByte(int i) {
            int from = 0;
            for (int round = 1; round <= played; round++) {
                int blocks = slots >> round;
                int place = i - from;
                if (place >= 0 && place < 2 * blocks) {
                    return roundsByte(round, place, blocks);
                }
                from += 2 * blocks;
            }
            return i < 0 ? from : NOT;
        }

        int roundsByte(int round, int place, int blocks) {
            if (place % 2 == 0) {
                return '0' + cameThrough(round, place / 2);
            }
            return place / 2 == blocks - 1 ? ';' : ',';
        }
    }

    /** All that changes and images keep. */
    private static final class Situation {
        final Entries entries = new Entries();
        final Draw draw = new Draw();

        void copyFrom(Situation other) {
            entries.copyFrom(other.entries);
            draw.copyFrom(other.draw);
        }
    }

    /** The situation as it is (at), those ahead of each change that may be undone, those that may be done again. */
    private static final class History {
        static final int MOST_CHANGES = 10;
        final Situation[] kept = new Situation[MOST_CHANGES + 1];
        int at;
        int top;

        History() {
            for (int i = 0; i < kept.length; i++) {
                kept[i] = new Situation();
            }
        }

        void forget(Situation now) {
            at = 0;
            top = 0;
            kept[0].copyFrom(now);
        }

        void remember(Situation now) {
            if (at < MOST_CHANGES) {
                at++;
            } else {
                loseOldest();
            }
            top = at;
            kept[at].copyFrom(now);
        }

        void loseOldest() {
            Situation oldest = kept[0];
            for (int i = 1; i < kept.length; i++) {
                kept[i - 1] = kept[i];
            }
            kept[kept.length - 1] = oldest;
        }

        void step(Situation now, int by) {
            int to = at + by;
            if (to >= 0 && to <= top && to < kept.length) {
                at = to;
                now.copyFrom(kept[to]);
            }
        }
    }

    private static final class Tape {
        final int[] bytes = new int[MOST_BYTES];
        int length;

        boolean add(int letter) {
            if (length < 0 || length >= bytes.length) {
                return false;
            }
            bytes[length] = letter;
            length++;
            return true;
        }

        /** NONE behind the end. */
        int at(int place) {
            return place >= 0 && place < length && place < bytes.length ? bytes[place] : NONE;
        }
    }

    /** Reads a text from the left; who comes by it is put into entries of its own, so that a fault costs nothing. */
    private static final class Text {
        final Entries entries = new Entries();
        private final int[] values = new int[SEED_SLOT];
        final Tape tape = new Tape();
        private int place;

        /** The fault's place, or NONE. */
        int read(Entries already) {
            place = 0;
            entries.copyFrom(already);
            for (int came = already.many; came < MOST_PLAYERS; came++) {
                if (!readPlayer()) {
                    return place;
                }
                entries.add(values[CLUB], values[REGION], values[SEED], values[STRENGTH]);
                if (place >= tape.length) {
                    return NONE;
                }
                place++;
            }
            return place;
        }

        /** Up to the end or to the next ; or, if false, to the fault. */
        private boolean readPlayer() {
            int seen = 0;
            for (int what = 0; what < values.length; what++) {
                values[what] = 0;
            }
            for (int fields = 0; fields <= values.length; fields++) {
                int letter = tape.at(place);
                if (fields > 0 && (letter == ';' || letter == NONE)) {
                    return true;
                }
                int what = whatOf(letter);
                if (what == NONE || ((seen >> what) & 1) == 1) {
                    return false;
                }
                seen |= 1 << what;
                place++;
                if (!readNumber(what)) {
                    return false;
                }
            }
            return false;
        }

        private boolean readNumber(int what) {
            int first = figure();
            if (first == NONE || what < CLUB || what > STRENGTH || !entries.mayTell(NONE, what, first)) {
                return false;
            }
            values[what] = first;
            place++;
            int second = figure();
            if (what == STRENGTH && second != NONE) {
                values[what] = 10 * first + second;
                place++;
            }
            return true;
        }

        private int figure() {
            int letter = tape.at(place);
            return letter >= '0' && letter <= '9' ? letter - '0' : NONE;
        }

        private static int whatOf(int letter) {
            switch (letter) {
                case 'c':
                    return CLUB;
                case 'r':
                    return REGION;
                case 's':
                    return SEED;
                case 'x':
                    return STRENGTH;
                default:
                    return NONE;
            }
        }
    }

    /** Which sets of players (bits) may stand in a block of a round, wherever the block is. */
    private static final class Rules {
        private static final int MOST_GROUPS = MOST_CLUB + MOST_REGION;
        private int many;
        private int slots = 2;
        private int wantBye;
        private final int[] groups = new int[MOST_GROUPS];
        private final int[] groupLevels = new int[MOST_GROUPS];
        private int groupCount;
        private int watchedPlayers;
        private int apartRound;
        private int togetherRound;

        void begin(Entries entries) {
            many = entries.many;
            slots = entries.slots();
            groupCount = 0;
            addGroups(entries, CLUB, entries.clubLevel);
            addGroups(entries, REGION, entries.regionLevel);
            watch(0, NONE, NONE);
            wantBye = 0;
            for (int player = 0; player < many; player++) {
                int seed = entries.told(player, SEED);
                if (seed > 0 && seed <= entries.byes()) {
                    wantBye |= 1 << player;
                }
            }
        }

        /** Of these no two in one block of the one round, and all or none in each of the other. */
        void watch(int players, int apart, int together) {
            watchedPlayers = players;
            apartRound = apart;
            togetherRound = together;
        }

        private void addGroups(Entries entries, int what, int level) {
            for (int value = 1; level > 0 && value <= Entries.largest(what); value++) {
                int group = 0;
                for (int player = 0; player < entries.many; player++) {
                    if (entries.told(player, what) == value) {
                        group |= 1 << player;
                    }
                }
                if (severalOf(group) && groupCount < groups.length) {
                    groups[groupCount] = group;
                    groupLevels[groupCount] = level;
                    groupCount++;
                }
            }
        }

        boolean fits(int set, int round) {
            return sizeFits(Integer.bitCount(set), round)
                    && !(round == 1 && (set & wantBye) != 0 && severalOf(set))
                    && !tooClose(set, round) && watchedFits(set & watchedPlayers, round);
        }

        /** Half of a block are players at least; the other blocks leave no more than half of theirs empty either. */
        private boolean sizeFits(int size, int round) {
            int here = 1 << round;
            int elsewhere = slots - here;
            int least = Math.max(here / 2, many - elsewhere);
            int most = Math.min(here, many - elsewhere / 2);
            return size >= least && size <= most;
        }

        private boolean tooClose(int set, int round) {
            for (int group = 0; group < groupCount && group < groups.length; group++) {
                if (round <= groupLevels[group] && severalOf(set & groups[group])) {
                    return true;
                }
            }
            return false;
        }

        private boolean watchedFits(int here, int round) {
            if (round == apartRound && severalOf(here)) {
                return false;
            }
            return round != togetherRound || here == 0 || here == watchedPlayers;
        }

        private static boolean severalOf(int set) {
            return (set & (set - 1)) != 0;
        }
    }

    /**
     * In how many ways each block can be filled with each set of players, from the smallest blocks up. Only the sets
     * that hold the pinned players of a block, and no pinned player of elsewhere, have a place in its row that is kept
     * up: all others count as 0.
     */
    private static final class Counter {
        private static final int LAST_SET = (1 << MOST_PLAYERS) - 1;
        final Rules rules = new Rules();
        private final Entries counted = new Entries();
        private boolean filled;
        long sum;
        int all;
        int slots = 2;
        private int rounds = 1;
        private int pinned;
        private final int[] must = new int[2 * MOST_SLOTS];
        private final long[][] ways = new long[MOST_SLOTS][LAST_SET + 1];

        boolean isFor(Entries entries) {
            return filled && counted.sameDraws(entries);
        }

        void begin(Entries entries) {
            counted.copyFrom(entries);
            filled = false;
            rules.begin(entries);
            all = entries.all();
            slots = entries.slots();
            rounds = entries.rounds();
            pinned = 0;
            for (int block = 0; block < must.length; block++) {
                must[block] = 0;
            }
            for (int player = 0; player < entries.many; player++) {
                pin(player, entries.seedSlot(player));
            }
        }

        /** False, if another one is pinned there. */
        boolean pin(int player, int slot) {
            if (slot < 0 || slot >= slots || must[slots + slot] != 0) {
                return false;
            }
            pinned |= 1 << player;
            for (int block = slots + slot; block >= 1; block /= 2) {
                must[block] |= 1 << player;
            }
            return true;
        }

        long total() {
            for (int round = 1; round <= rounds; round++) {
                int blocks = slots >> round;
                for (int block = blocks; block < 2 * blocks; block++) {
                    fillRow(block, round);
                }
            }
            sum = waysOf(1, all);
            filled = true;
            return sum;
        }

        long waysOf(int block, int set) {
            if (block < 1 || block >= 2 * slots || (set & ~all) != 0 || (set & pinned) != must[block]) {
                return 0;
            }
            if (block >= slots) {
                return Integer.bitCount(set) <= 1 ? 1 : 0;
            }
            return ways[block][set & LAST_SET];
        }

        private void fillRow(int block, int round) {
            if (block < 1 || block >= slots) {
                return;
            }
            long[] row = ways[block];
            int twin = twinOf(block, round);
            if (twin != NONE) {
                System.arraycopy(ways[twin], 0, row, 0, row.length);
                return;
            }
            int free = all & ~pinned;
            int sets = 1 << Integer.bitCount(free);
            int part = 0;
            for (int i = 0; i < sets; i++) {
                int set = must[block] | part;
                long here = 0;
                if (rules.fits(set, round)) {
                    here = round == 1 ? pairWays(block, set) : halvesWays(block, part);
                }
                row[set & LAST_SET] = here;
                part = (part - free) & free;
            }
        }

        /** An earlier block of that round with nobody pinned either: its row is the same. */
        private int twinOf(int block, int round) {
            for (int twin = slots >> round; must[block] == 0 && twin < block; twin++) {
                if (must[twin] == 0) {
                    return twin;
                }
            }
            return NONE;
        }

        private long pairWays(int block, int set) {
            int parts = 1 << Integer.bitCount(set);
            int part = 0;
            long sum = 0;
            for (int i = 0; i < parts; i++) {
                sum += waysOf(2 * block, part) * waysOf(2 * block + 1, set ^ part);
                part = (part - set) & set;
            }
            return sum;
        }

        /** The dearest loop of all, so it reads the rows themselves: part of the unpinned stand in the first half. */
        private long halvesWays(int block, int unpinned) {
            if (block < 1 || 2 * block + 1 >= ways.length) {
                return 0;
            }
            long[] first = ways[2 * block];
            long[] second = ways[2 * block + 1];
            int firstMust = must[2 * block];
            int secondMust = must[2 * block + 1];
            int parts = 1 << Integer.bitCount(unpinned);
            int part = 0;
            long sum = 0;
            for (int i = 0; i < parts; i++) {
                long inFirst = first[(firstMust | part) & LAST_SET];
                if (inFirst != 0) {
                    sum += inFirst * second[(secondMust | (unpinned ^ part)) & LAST_SET];
                }
                part = (part - unpinned) & unpinned;
            }
            return sum;
        }
    }

    /** From a number to who stands where, and the other way round. */
    private static final class Numbering {
        private final int[] sets = new int[2 * MOST_SLOTS];
        private final long[] numbers = new long[2 * MOST_SLOTS];

        /** Lays who stands in each slot into came: the set of one player, less 1, has the bits below that player's. */
        void lay(Counter counter, long number, int[] came) {
            sets[1] = counter.all;
            numbers[1] = number;
            for (int block = 1; block < counter.slots && 2 * block + 1 < sets.length; block++) {
                split(counter, block);
            }
            for (int i = counter.slots; i < 2 * counter.slots && i < came.length && i < sets.length; i++) {
                came[i] = sets[i] == 0 ? BYE : Integer.bitCount(sets[i] - 1);
            }
        }

        private void split(Counter counter, int block) {
            int set = sets[block];
            int parts = 1 << Integer.bitCount(set);
            int part = 0;
            long left = numbers[block];
            for (int i = 0; i < parts; i++) {
                long inSecond = counter.waysOf(2 * block + 1, set ^ part);
                long here = inSecond == 0 ? 0 : inSecond * counter.waysOf(2 * block, part);
                if (inSecond > 0 && left < here) {
                    sets[2 * block] = part;
                    sets[2 * block + 1] = set ^ part;
                    numbers[2 * block] = left / inSecond;
                    numbers[2 * block + 1] = left % inSecond;
                    return;
                }
                left -= here;
                part = (part - set) & set;
            }
        }

        /** The number of the draw in which two changed slots, or NONE. */
        long numberOfSwapped(Counter counter, Draw draw, int player, int other) {
            for (int slot = 0; slot < draw.slots && draw.slots + slot < sets.length; slot++) {
                int who = draw.standing(slot);
                if (who == player || who == other) {
                    who = player + other - who;
                }
                sets[draw.slots + slot] = who == BYE ? 0 : 1 << who;
                numbers[draw.slots + slot] = 0;
            }
            for (int block = draw.slots - 1; block >= 1 && 2 * block + 1 < sets.length; block--) {
                if (!join(counter, block)) {
                    return NONE;
                }
            }
            return numbers[1];
        }

        /** False, if no draw has these halves. */
        private boolean join(Counter counter, int block) {
            int first = sets[2 * block];
            int set = first | sets[2 * block + 1];
            sets[block] = set;
            long inSecond = counter.waysOf(2 * block + 1, set ^ first);
            if (inSecond == 0 || counter.waysOf(2 * block, first) == 0 || counter.waysOf(block, set) == 0) {
                return false;
            }
            long number = numbers[2 * block] * inSecond + numbers[2 * block + 1];
            int parts = 1 << Integer.bitCount(set);
            int part = 0;
            for (int i = 0; i < parts && part != first; i++) {
                number += counter.waysOf(2 * block, part) * counter.waysOf(2 * block + 1, set ^ part);
                part = (part - set) & set;
            }
            numbers[block] = number;
            return true;
        }
    }
}
