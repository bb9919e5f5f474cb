/**
 * A solitaire of seeds in one row of pits with a store.
 *
 * Everything that calls need is made with the object and used again, so that a
 * run of calls takes no more room than its objects do.
 */
public final class OneRowSeeds {
    public static final int NO_SUCH = -1, BAD_VALUE = -2, BAD_TEXT = -3, TOO_MANY = -4, NOT_POSSIBLE = -5, NONE = -6;
    public static final int RELAY = 0, EXACT = 1, LIVES = 2;

    private static final int SETTINGS = 3;
    private static final int FEWEST_PITS = 2, MOST_PITS = 6;
    private static final int MOST_IN_PIT_AT_BEGIN = 7, MOST_SEEDS = 14;
    private static final int MOST_KEPT = 20;
    private static final int MOST_UNDO = 6;
    private static final int SLOTS = 2;
    private static final int GOES_ON = 0, WON = 1, LOST = 2, STUCK = 3;

    private final State now = new State();
    private final State[] history = new State[MOST_UNDO];
    private int undoable = 0;
    private final State[] slots = new State[SLOTS];
    private final Pad pad = new Pad();
    private final Sowing sowing = new Sowing();
    private final Search search = new Search();

    public OneRowSeeds() {
        for (int i = 0; i < MOST_UNDO; i++) {
            history[i] = new State();
        }
        now.startRound(4, Row.evenly(4, 2));
    }

    // ---- changes

    public int set(int setting, int value) {
        if (setting < 0 || setting >= SETTINGS || value < 0 || value > 1) {
            return BAD_VALUE;
        }
        record();
        int previous = now.settings[setting];
        now.settings[setting] = value;
        return previous;
    }

    public int begin(int pits, int seeds) {
        if (!isRowLength(pits) || seeds < 1 || seeds > MOST_IN_PIT_AT_BEGIN) {
            return BAD_VALUE;
        }
        if (pits * seeds > MOST_SEEDS) {
            return TOO_MANY;
        }
        record();
        now.startRound(pits, Row.evenly(pits, seeds));
        return pits * seeds;
    }

    public int load() {
        if (pad.read() != NONE) {
            return BAD_TEXT;
        }
        if (pad.pitsRead < FEWEST_PITS || pad.seedsRead == 0) {
            return BAD_VALUE;
        }
        if (pad.seedsRead > MOST_SEEDS) {
            return TOO_MANY;
        }
        record();
        now.startRound(pad.pitsRead, pad.positionRead);
        pad.length = 0;
        return pad.seedsRead;
    }

    public int loadExact(int pits, int seeds) {
        if (!isRowLength(pits) || seeds < 1 || seeds > MOST_SEEDS) {
            return BAD_VALUE;
        }
        int fromStore = Row.exactFromStore(seeds);
        if (Row.farthest(fromStore) > pits) {
            return NOT_POSSIBLE;
        }
        record();
        int position = Row.turnedRound(fromStore, pits);
        now.startRound(pits, position);
        return Row.pitsWithSeeds(position, pits);
    }

    public int sow(int pit) {
        if (!isPit(pit)) {
            return NO_SUCH;
        }
        if (!now.canSow(now.position, pit)) {
            return NOT_POSSIBLE;
        }
        record();
        makeMove(pit);
        return sowing.gained;
    }

    public int back() {
        if (now.kept <= 0) {
            return NOT_POSSIBLE;
        }
        record();
        return now.takeBack();
    }

    public int play() {
        record();
        search.explore(now);
        int most = search.mostFrom(now, now.position);
        int made = 0;
        // A round that is over or stuck has its best store, so this one test stands for all three.
        while (now.store() < most && made < MOST_KEPT) {
            int pit = search.firstMove(now, now.position);
            if (pit == NONE) {
                break;
            }
            makeMove(pit);
            made++;
        }
        return made;
    }

    // ---- what there is; nothing changes

    public int pit(int pit) {
        return isPit(pit) ? Row.seedsAt(now.position, pit) : NO_SUCH;
    }

    public int count(int what) {
        switch (what) {
            case 0: return now.pits;
            case 1: return now.store();
            case 2: return now.store() + Row.inPits(now.position, now.pits);
            case 3: return now.how(now.position);
            case 4: return Row.lives(now.position);
            case 5: return now.moves;
            case 6: return now.kept;
            case 7: return now.latestLaps();
            case 8: return now.sowable(now.position);
            case 9: return now.settings[RELAY];
            case 10: return now.settings[EXACT];
            case 11: return now.settings[LIVES];
            case 12: return pad.length;
            case 13: return undoable;
            default: return BAD_VALUE;
        }
    }

    public int move(int ago) {
        if (ago < 0) {
            return NO_SUCH;
        }
        return now.keptPit(ago);
    }

    // ---- what if; nothing changes

    public int ifSown(int pit, int what) {
        if (!isPit(pit)) {
            return NO_SUCH;
        }
        if (what < 0 || what > 4) {
            return BAD_VALUE;
        }
        if (!now.canSow(now.position, pit)) {
            return NOT_POSSIBLE;
        }
        sowing.make(now, now.position, pit);
        switch (what) {
            case 0: return sowing.last;
            case 1: return sowing.laps;
            case 2: return sowing.gained;
            case 3: return sowing.wrong ? 1 : 0;
            default: return now.how(sowing.position);
        }
    }

    public int ifSownHas(int pit, int place) {
        if (!isPit(pit) || place < 0 || place > now.pits) {
            return NO_SUCH;
        }
        if (!now.canSow(now.position, pit)) {
            return NOT_POSSIBLE;
        }
        sowing.make(now, now.position, pit);
        return Row.seedsAt(sowing.position, place);
    }

    public int best(int what) {
        if (what < 0 || what > 3) {
            return BAD_VALUE;
        }
        search.explore(now);
        switch (what) {
            case 0: return search.mostFrom(now, now.position);
            case 1: return search.firstMove(now, now.position);
            case 2: return search.found;
            default: return search.fewestFrom(now.position);
        }
    }

    public int exact(int seeds, int distance) {
        if (seeds < 0 || seeds > MOST_SEEDS || distance < 1 || distance > MOST_PITS) {
            return BAD_VALUE;
        }
        return Row.seedsAt(Row.exactFromStore(seeds), distance - 1);
    }

    // ---- texts

    public int put(long characters) {
        int number = Pad.charactersIn(characters);
        if (number == 0) {
            return BAD_VALUE;
        }
        if (pad.length + number > Pad.LONGEST) {
            return TOO_MANY;
        }
        for (int i = number - 1; i >= 0; i--) {
            pad.append((int) (characters >>> (8 * i)) & 255);
        }
        return pad.length;
    }

    public int wipe() {
        int length = pad.length;
        pad.length = 0;
        return length;
    }

    public int fault() {
        return pad.read();
    }

    // ---- undo, saving

    public int undo() {
        if (undoable <= 0) {
            return NOT_POSSIBLE;
        }
        undoable--;
        now.copyFrom(history[undoable]);
        return undoable;
    }

    public int save(int slot) {
        if (slot < 0 || slot >= SLOTS) {
            return BAD_VALUE;
        }
        if (slots[slot] == null) {
            slots[slot] = new State();
        }
        slots[slot].copyFrom(now);
        return now.store();
    }

    public int restore(int slot) {
        if (slot < 0 || slot >= SLOTS) {
            return BAD_VALUE;
        }
        if (slots[slot] == null) {
            return NOT_POSSIBLE;
        }
        record();
        now.copyFrom(slots[slot]);
        return now.store();
    }

    // ---- helpers

    private static boolean isRowLength(int pits) {
        return pits >= FEWEST_PITS && pits <= MOST_PITS;
    }

    private boolean isPit(int pit) {
        return pit >= 0 && pit < now.pits;
    }

    private void makeMove(int pit) {
        sowing.make(now, now.position, pit);
        now.keep(pit, sowing.laps);
        now.position = sowing.position;
    }

    private void record() {
        if (undoable >= MOST_UNDO) {
            dropOldest();
        }
        history[undoable].copyFrom(now);
        undoable++;
    }

    // The dropped state's object goes to the end, where the next one is written.
    private void dropOldest() {
        State oldest = history[0];
        for (int i = 1; i < MOST_UNDO; i++) {
            history[i - 1] = history[i];
        }
        history[MOST_UNDO - 1] = oldest;
        undoable = MOST_UNDO - 1;
    }

    /**
     * A position in one int: four bits for each place, the pits from 0 on and the
     * store behind them, then a bit for a life that is left and one for a loss.
     * There are at most 14 seeds, so no place overflows; and there is at least one,
     * so no position is 0.
     */
    private static final class Row {
        static final int LIFE = 1 << 28, LOSS = 1 << 29;

        static int seedsAt(int position, int place) {
            return (position >>> (4 * place)) & 15;
        }

        static int seeds(int number, int place) {
            return number << (4 * place);
        }

        static int next(int place, int pits) {
            return place >= pits ? 0 : place + 1;
        }

        static int lives(int position) {
            return (position & LIFE) == 0 ? 0 : 1;
        }

        static boolean isLost(int position) {
            return (position & LOSS) != 0;
        }

        static int afterWrongMove(int position) {
            return lives(position) > 0 ? position - LIFE : position | LOSS;
        }

        static int inPits(int position, int pits) {
            int sum = 0;
            for (int pit = 0; pit < pits; pit++) {
                sum += seedsAt(position, pit);
            }
            return sum;
        }

        static int pitsWithSeeds(int position, int pits) {
            int number = 0;
            for (int pit = 0; pit < pits; pit++) {
                if (seedsAt(position, pit) > 0) {
                    number++;
                }
            }
            return number;
        }

        static int evenly(int pits, int each) {
            int position = 0;
            for (int pit = 0; pit < pits; pit++) {
                position += seeds(each, pit);
            }
            return position;
        }

        static int lastOfFirstLap(int position, int pits, int pit) {
            int place = pit;
            for (int left = seedsAt(position, pit); left > 0; left--) {
                place = next(place, pits);
            }
            return place;
        }

        /** The exact position, its places counted from the store: place 0 has the distance 1. */
        static int exactFromStore(int seeds) {
            int row = 0;
            for (int i = 0; i < seeds; i++) {
                int empty = 0;
                while (empty < MOST_PITS && seedsAt(row, empty) > 0) {
                    row -= seeds(1, empty);
                    empty++;
                }
                row += seeds(empty + 1, empty);
            }
            return row;
        }

        /** The greatest distance that has seeds. */
        static int farthest(int fromStore) {
            int farthest = 0;
            for (int distance = 1; distance <= MOST_PITS; distance++) {
                if (seedsAt(fromStore, distance - 1) > 0) {
                    farthest = distance;
                }
            }
            return farthest;
        }

        static int turnedRound(int fromStore, int pits) {
            int position = 0;
            for (int pit = 0; pit < pits; pit++) {
                position += seeds(seedsAt(fromStore, pits - 1 - pit), pit);
            }
            return position;
        }
    }

    /** All that undo brings back, and that slots hold. */
    private static final class State {
        final int[] settings = new int[SETTINGS];
        int pits;
        int position;
        int moves;
        int kept;
        final int[] keptPits = new int[MOST_KEPT];
        final int[] keptLaps = new int[MOST_KEPT];
        // Sowing laps backward comes to the position that was ahead of them.
        final int[] keptAhead = new int[MOST_KEPT];

        State() {
            settings[RELAY] = 1;
        }

        void copyFrom(State other) {
            System.arraycopy(other.settings, 0, settings, 0, SETTINGS);
            pits = other.pits;
            position = other.position;
            moves = other.moves;
            kept = other.kept;
            System.arraycopy(other.keptPits, 0, keptPits, 0, MOST_KEPT);
            System.arraycopy(other.keptLaps, 0, keptLaps, 0, MOST_KEPT);
            System.arraycopy(other.keptAhead, 0, keptAhead, 0, MOST_KEPT);
        }

        void startRound(int newPits, int seeds) {
            pits = newPits;
            position = settings[LIVES] == 1 ? seeds | Row.LIFE : seeds;
            moves = 0;
            kept = 0;
        }

        int store() {
            return Row.seedsAt(position, pits);
        }

        boolean canSow(int from, int pit) {
            if (Row.isLost(from) || Row.seedsAt(from, pit) == 0) {
                return false;
            }
            return settings[EXACT] == 0 || Row.lastOfFirstLap(from, pits, pit) == pits;
        }

        int sowable(int from) {
            int mask = 0;
            for (int pit = 0; pit < pits; pit++) {
                if (canSow(from, pit)) {
                    mask |= 1 << pit;
                }
            }
            return mask;
        }

        int how(int from) {
            if (Row.isLost(from)) {
                return LOST;
            }
            if (Row.inPits(from, pits) == 0) {
                return WON;
            }
            return sowable(from) == 0 ? STUCK : GOES_ON;
        }

        void keep(int pit, int laps) {
            if (kept >= MOST_KEPT) {
                forgetOldest();
            }
            keptPits[kept] = pit;
            keptLaps[kept] = laps;
            keptAhead[kept] = position;
            kept++;
            moves++;
        }

        void forgetOldest() {
            for (int i = 1; i < MOST_KEPT; i++) {
                keptPits[i - 1] = keptPits[i];
                keptLaps[i - 1] = keptLaps[i];
                keptAhead[i - 1] = keptAhead[i];
            }
            kept = MOST_KEPT - 1;
        }

        int takeBack() {
            if (kept <= 0) {
                return NONE;
            }
            kept--;
            moves--;
            position = keptAhead[kept];
            return keptPits[kept];
        }

        int keptPit(int ago) {
            return ago >= 0 && ago < kept ? keptPits[kept - 1 - ago] : NONE;
        }

        int latestLaps() {
            return kept > 0 ? keptLaps[kept - 1] : NONE;
        }
    }

    /** What one move does. */
    private static final class Sowing {
        // Far above what 14 seeds can do: no move has more than 28 laps (all of them were counted).
        static final int MOST_LAPS = 1000;

        int position;
        int last;
        int laps;
        int gained;
        boolean wrong;

        void make(State rules, int from, int pit) {
            position = from;
            last = pit;
            laps = 0;
            boolean goesOn = true;
            for (int lap = 0; goesOn && lap < MOST_LAPS; lap++) {
                goesOn = endsAmongSeeds(rules.pits) && rules.settings[RELAY] == 1;
            }
            gained = Row.seedsAt(position, rules.pits) - Row.seedsAt(from, rules.pits);
            wrong = last != rules.pits;
            if (wrong) {
                position = Row.afterWrongMove(position);
            }
        }

        // Sows one lap from the last place on.
        private boolean endsAmongSeeds(int pits) {
            int hand = Row.seedsAt(position, last);
            position -= Row.seeds(hand, last);
            int there = 0;
            for (int left = hand; left > 0; left--) {
                last = Row.next(last, pits);
                there = Row.seedsAt(position, last);
                position += Row.seeds(1, last);
            }
            laps++;
            return last != pits && there > 0;
        }
    }

    /**
     * All positions that can come, each once, with what can be reached from it.
     * A move brings seeds into the store, or takes a life, or loses: so no position
     * comes twice in a play, and no play has more than 16 moves.
     */
    private static final class Search {
        // At most 2011 positions can come from one (all of them were counted), so half stays free.
        static final int SIZE_BITS = 12, SIZE = 1 << SIZE_BITS;
        static final int DEEPEST = 40;
        static final int NO_WIN = 63;

        // An entry: the position in the low 32 bits, then 8 bits of the most seeds, then the fewest moves to win.
        final long[] table = new long[SIZE];
        final Sowing sowing = new Sowing();
        int found;

        void explore(State state) {
            for (int i = 0; i < SIZE; i++) {
                table[i] = 0;
            }
            found = 0;
            if (!Row.isLost(state.position)) {
                visit(this, state, state.position, 0);
            }
        }

        private static int visit(Search search, State rules, int position, int depth) {
            int slot = search.slotOf(position);
            if (search.table[slot] != 0 || depth > DEEPEST) {
                return slot;
            }
            // The slot is taken before the moves are followed, or their positions would come into it.
            search.table[slot] = position;
            search.found++;
            int most = Row.seedsAt(position, rules.pits);
            int fewest = Row.inPits(position, rules.pits) == 0 ? 0 : NO_WIN;
            for (int pit = 0; pit < rules.pits; pit++) {
                if (!rules.canSow(position, pit)) {
                    continue;
                }
                search.sowing.make(rules, position, pit);
                int behind = search.sowing.position;
                if (Row.isLost(behind)) {
                    most = Math.max(most, Row.seedsAt(behind, rules.pits));
                } else {
                    int next = visit(search, rules, behind, depth + 1);
                    most = Math.max(most, search.mostIn(next));
                    fewest = Math.min(fewest, search.fewestIn(next) + 1);
                }
            }
            search.table[slot] = (long) fewest << 40 | (long) most << 32 | position;
            return slot;
        }

        /** Where the position is, or where it would come. */
        private int slotOf(int position) {
            int slot = (position * 0x9E3779B1) >>> (32 - SIZE_BITS);
            for (int tries = 0; tries < SIZE; tries++) {
                int there = (int) table[slot];
                if (there == 0 || there == position) {
                    return slot;
                }
                slot = (slot + 1) & (SIZE - 1);
            }
            return slot;
        }

        private int mostIn(int slot) {
            return (int) (table[slot] >>> 32) & 255;
        }

        private int fewestIn(int slot) {
            return (int) (table[slot] >>> 40) & 255;
        }

        /** The best store from a position that has been explored, or that is lost. */
        int mostFrom(State rules, int position) {
            if (Row.isLost(position)) {
                return Row.seedsAt(position, rules.pits);
            }
            return mostIn(slotOf(position));
        }

        int fewestFrom(int position) {
            if (Row.isLost(position)) {
                return NONE;
            }
            int fewest = fewestIn(slotOf(position));
            return fewest == NO_WIN ? NONE : fewest;
        }

        /** The lowest pit behind which the best store can still be reached, or NONE if it is there. */
        int firstMove(State rules, int position) {
            int most = mostFrom(rules, position);
            if (Row.seedsAt(position, rules.pits) == most) {
                return NONE;
            }
            for (int pit = 0; pit < rules.pits; pit++) {
                if (rules.canSow(position, pit)) {
                    sowing.make(rules, position, pit);
                    if (mostFrom(rules, sowing.position) == most) {
                        return pit;
                    }
                }
            }
            return NONE;
        }
    }

    /** The text that is put together, and what reading it found. */
    private static final class Pad {
        static final int LONGEST = 40;

        final int[] characters = new int[LONGEST];
        int length = 0;
        int pitsRead;
        int seedsRead;
        int positionRead;

        /** How many characters the number holds, or 0 if it is not well made. */
        static int charactersIn(long number) {
            long rest = number;
            int characters = 0;
            while (characters < 8 && (rest & 255) != 0) {
                int code = (int) (rest & 255);
                if (code < 33 || code > 126) {
                    return 0;
                }
                rest >>>= 8;
                characters++;
            }
            return rest == 0 ? characters : 0;
        }

        void append(int character) {
            if (length >= 0 && length < LONGEST) {
                characters[length] = character;
                length++;
            }
        }

        /** Reads the text; the answer is its fault, or NONE. */
        int read() {
            pitsRead = 0;
            seedsRead = 0;
            positionRead = 0;
            int number = NONE;
            boolean atStore = false;
            for (int i = 0; i < length && i < LONGEST; i++) {
                int character = characters[i];
                if (canGrow(number, character)) {
                    number = number == NONE ? character - '0' : number * 10 + character - '0';
                } else if (number != NONE && !atStore && canSeparate(character)) {
                    takePit(number);
                    number = NONE;
                    atStore = character == '/';
                } else {
                    return i;
                }
            }
            if (number == NONE) {
                return length;
            }
            if (atStore) {
                takeStore(number);
            } else {
                takePit(number);
            }
            return NONE;
        }

        private static boolean canGrow(int number, int character) {
            if (character < '0' || character > '9') {
                return false;
            }
            return number == NONE || number != 0 && number * 10 + character - '0' <= MOST_SEEDS;
        }

        // A comma takes this pit and one more.
        private boolean canSeparate(int character) {
            return character == '/' || character == ',' && pitsRead + 2 <= MOST_PITS;
        }

        private void takePit(int number) {
            positionRead += Row.seeds(number, pitsRead);
            seedsRead += number;
            pitsRead++;
        }

        private void takeStore(int number) {
            positionRead += Row.seeds(number, pitsRead);
            seedsRead += number;
        }
    }
}
