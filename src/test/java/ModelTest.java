import java.util.ArrayDeque;
import java.util.ArrayList;
import java.util.Arrays;
import java.util.HashMap;
import java.util.HashSet;
import java.util.List;
import java.util.Map;
import java.util.Set;
import java.util.regex.Matcher;
import java.util.regex.Pattern;

/**
 * Long runs of calls, each answered by the class and by a plain model that is written in another way: seeds in
 * arrays, laps that are sown backward, plays that are followed with texts as keys, a pattern that reads the pad.
 */
public final class ModelTest {
    private static final int NO_SUCH = -1, BAD_VALUE = -2, BAD_TEXT = -3, TOO_MANY = -4, NOT_POSSIBLE = -5, NONE = -6;
    private static final int RUNS = 2500;
    // The document promises 512 calls; no step makes more than 80.
    private static final int LAST_STEP = 512 - 80;

    /** A lap: where it began, and how many seeds were taken there. */
    private record Lap(int pit, int seeds) {
    }

    private record Move(int pit, List<Lap> laps, boolean tookLife) {
    }

    private static final class Round {
        int[] settings = {1, 0, 0};
        int[] places = {2, 2, 2, 2, 0};
        int lives = 0;
        boolean lost = false;
        int moves = 0;
        ArrayDeque<Move> kept = new ArrayDeque<>();

        Round copy() {
            Round other = new Round();
            other.settings = settings.clone();
            other.places = places.clone();
            other.lives = lives;
            other.lost = lost;
            other.moves = moves;
            other.kept = new ArrayDeque<>(kept);
            return other;
        }

        int pits() {
            return places.length - 1;
        }

        int store() {
            return places[pits()];
        }

        int all() {
            return Arrays.stream(places).sum();
        }

        void start(int[] newPlaces) {
            places = newPlaces;
            lives = settings[2];
            lost = false;
            moves = 0;
            kept.clear();
        }

        boolean won() {
            return store() == all();
        }

        boolean can(int pit) {
            if (lost || won() || places[pit] == 0) {
                return false;
            }
            return settings[1] == 0 || (pit + places[pit]) % places.length == pits();
        }

        int mask() {
            int mask = 0;
            for (int pit = 0; pit < pits(); pit++) {
                mask += can(pit) ? 1 << pit : 0;
            }
            return mask;
        }

        int how() {
            return won() ? 1 : lost ? 2 : mask() == 0 ? 3 : 0;
        }

        /** The place of the last seed. */
        int sow(int pit) {
            List<Lap> laps = new ArrayList<>();
            int place = pit;
            boolean again = true;
            while (again) {
                int hand = places[place];
                laps.add(new Lap(place, hand));
                places[place] = 0;
                for (int i = 1; i < hand; i++) {
                    place = (place + 1) % places.length;
                    places[place]++;
                }
                place = (place + 1) % places.length;
                again = place != pits() && places[place] > 0 && settings[0] == 1;
                places[place]++;
            }
            boolean wrong = place != pits();
            boolean takes = wrong && lives > 0;
            lives -= takes ? 1 : 0;
            lost = wrong && !takes;
            moves++;
            kept.addFirst(new Move(pit, laps, takes));
            if (kept.size() > 20) {
                kept.removeLast();
            }
            return place;
        }

        int back() {
            Move move = kept.removeFirst();
            for (int i = move.laps.size() - 1; i >= 0; i--) {
                Lap lap = move.laps.get(i);
                for (int seed = lap.seeds; seed >= 1; seed--) {
                    places[(lap.pit + seed) % places.length]--;
                }
                places[lap.pit] += lap.seeds;
            }
            lives += move.tookLife ? 1 : 0;
            lost = false;
            moves--;
            return move.pit;
        }

        String key() {
            return Arrays.toString(Arrays.copyOf(places, pits())) + lives;
        }
    }

    private static int bestStore(Round round, Map<String, Integer> known) {
        if (!round.lost && known.containsKey(round.key())) {
            return known.get(round.key());
        }
        int most = round.store();
        for (int pit = 0; pit < round.pits(); pit++) {
            if (round.can(pit)) {
                Round behind = round.copy();
                behind.sow(pit);
                most = Math.max(most, bestStore(behind, known));
            }
        }
        if (!round.lost) {
            known.put(round.key(), most);
        }
        return most;
    }

    private static int firstPit(Round round) {
        Map<String, Integer> known = new HashMap<>();
        int most = bestStore(round, known);
        for (int pit = 0; pit < round.pits() && most > round.store(); pit++) {
            if (round.can(pit)) {
                Round behind = round.copy();
                behind.sow(pit);
                if (bestStore(behind, known) == most) {
                    return pit;
                }
            }
        }
        return NONE;
    }

    /** Level by level: the positions that can come, and the first level that has a won one. */
    private static int[] positionsAndFewest(Round start) {
        Set<String> seen = new HashSet<>();
        List<Round> level = new ArrayList<>();
        int fewest = NONE;
        if (!start.lost) {
            level.add(start);
            seen.add(start.key());
        }
        for (int depth = 0; !level.isEmpty(); depth++) {
            List<Round> next = new ArrayList<>();
            for (Round round : level) {
                fewest = round.won() && fewest == NONE ? depth : fewest;
                for (int pit = 0; pit < round.pits(); pit++) {
                    if (round.can(pit)) {
                        Round behind = round.copy();
                        behind.sow(pit);
                        if (!behind.lost && seen.add(behind.key())) {
                            next.add(behind);
                        }
                    }
                }
            }
            level = next;
        }
        return new int[] {seen.size(), fewest};
    }

    private static final class Model {
        private static final Pattern TEXT = Pattern.compile(
                "(0|1[0-4]|[1-9])(,(0|1[0-4]|[1-9])){0,5}(/(0|1[0-4]|[1-9]))?");
        Round now = new Round();
        ArrayDeque<Round> history = new ArrayDeque<>();
        Round[] slots = new Round[2];
        StringBuilder pad = new StringBuilder();

        void record() {
            history.addFirst(now.copy());
            if (history.size() > 6) {
                history.removeLast();
            }
        }

        int set(int setting, int value) {
            if (setting < 0 || setting > 2 || value < 0 || value > 1) {
                return BAD_VALUE;
            }
            record();
            int previous = now.settings[setting];
            now.settings[setting] = value;
            return previous;
        }

        int begin(int pits, int seeds) {
            if (pits < 2 || pits > 6 || seeds < 1 || seeds > 7) {
                return BAD_VALUE;
            }
            if (pits * seeds > 14) {
                return TOO_MANY;
            }
            record();
            int[] places = new int[pits + 1];
            Arrays.fill(places, 0, pits, seeds);
            now.start(places);
            return now.all();
        }

        int load() {
            if (fault() != NONE) {
                return BAD_TEXT;
            }
            String[] parts = pad.toString().split("/");
            String[] pits = parts[0].split(",");
            int[] places = new int[pits.length + 1];
            for (int i = 0; i < pits.length; i++) {
                places[i] = Integer.parseInt(pits[i]);
            }
            places[pits.length] = parts.length > 1 ? Integer.parseInt(parts[1]) : 0;
            int all = Arrays.stream(places).sum();
            if (pits.length == 1 || all == 0) {
                return BAD_VALUE;
            }
            if (all > 14) {
                return TOO_MANY;
            }
            record();
            now.start(places);
            pad.setLength(0);
            return all;
        }

        private static int[] exactPits(int seeds) {
            int[] byDistance = new int[30];
            for (int i = 0; i < seeds; i++) {
                int least = 1;
                while (byDistance[least] > 0) {
                    least++;
                }
                byDistance[least] = least;
                for (int nearer = 1; nearer < least; nearer++) {
                    byDistance[nearer]--;
                }
            }
            return byDistance;
        }

        int loadExact(int pits, int seeds) {
            if (pits < 2 || pits > 6 || seeds < 1 || seeds > 14) {
                return BAD_VALUE;
            }
            int[] byDistance = exactPits(seeds);
            int[] places = new int[pits + 1];
            int filled = 0;
            for (int distance = 1; distance < byDistance.length; distance++) {
                if (byDistance[distance] > 0) {
                    if (distance > pits) {
                        return NOT_POSSIBLE;
                    }
                    places[pits - distance] = byDistance[distance];
                    filled++;
                }
            }
            record();
            now.start(places);
            return filled;
        }

        int sow(int pit) {
            if (pit < 0 || pit >= now.pits()) {
                return NO_SUCH;
            }
            if (!now.can(pit)) {
                return NOT_POSSIBLE;
            }
            record();
            int store = now.store();
            now.sow(pit);
            return now.store() - store;
        }

        int back() {
            if (now.kept.isEmpty()) {
                return NOT_POSSIBLE;
            }
            record();
            return now.back();
        }

        int play() {
            record();
            int made = 0;
            for (int pit = firstPit(now); pit != NONE; pit = firstPit(now)) {
                now.sow(pit);
                made++;
            }
            return made;
        }

        int pit(int pit) {
            return pit < 0 || pit >= now.pits() ? NO_SUCH : now.places[pit];
        }

        int count(int what) {
            int laps = now.kept.isEmpty() ? NONE : now.kept.getFirst().laps.size();
            int[] numbers = {now.pits(), now.store(), now.all(), now.how(), now.lives, now.moves, now.kept.size(), laps,
                now.mask(), now.settings[0], now.settings[1], now.settings[2], pad.length(), history.size()};
            return what < 0 || what >= numbers.length ? BAD_VALUE : numbers[what];
        }

        int move(int ago) {
            if (ago < 0) {
                return NO_SUCH;
            }
            return ago < now.kept.size() ? new ArrayList<>(now.kept).get(ago).pit : NONE;
        }

        int ifSown(int pit, int what) {
            if (pit < 0 || pit >= now.pits()) {
                return NO_SUCH;
            }
            if (what < 0 || what > 4) {
                return BAD_VALUE;
            }
            if (!now.can(pit)) {
                return NOT_POSSIBLE;
            }
            Round behind = now.copy();
            int last = behind.sow(pit);
            int[] numbers = {last, behind.kept.getFirst().laps.size(), behind.store() - now.store(),
                last == now.pits() ? 0 : 1, behind.how()};
            return numbers[what];
        }

        int ifSownHas(int pit, int place) {
            if (pit < 0 || pit >= now.pits() || place < 0 || place > now.pits()) {
                return NO_SUCH;
            }
            if (!now.can(pit)) {
                return NOT_POSSIBLE;
            }
            Round behind = now.copy();
            behind.sow(pit);
            return behind.places[place];
        }

        int best(int what) {
            switch (what) {
                case 0: return bestStore(now, new HashMap<>());
                case 1: return firstPit(now);
                case 2: return positionsAndFewest(now)[0];
                case 3: return positionsAndFewest(now)[1];
                default: return BAD_VALUE;
            }
        }

        int exact(int seeds, int distance) {
            if (seeds < 0 || seeds > 14 || distance < 1 || distance > 6) {
                return BAD_VALUE;
            }
            return exactPits(seeds)[distance];
        }

        int put(long characters) {
            StringBuilder text = new StringBuilder();
            for (int shift = 56; shift >= 0; shift -= 8) {
                int code = (int) (characters >> shift) & 255;
                if (code == 0 && text.length() == 0) {
                    continue;
                }
                if (code < 33 || code > 126) {
                    return BAD_VALUE;
                }
                text.append((char) code);
            }
            if (text.length() == 0) {
                return BAD_VALUE;
            }
            if (pad.length() + text.length() > 40) {
                return TOO_MANY;
            }
            return pad.append(text).length();
        }

        int wipe() {
            int length = pad.length();
            pad.setLength(0);
            return length;
        }

        int fault() {
            for (int i = 0; i <= pad.length(); i++) {
                Matcher matcher = TEXT.matcher(pad.substring(0, i));
                boolean whole = matcher.matches();
                if (!whole && !matcher.hitEnd()) {
                    return i - 1;
                }
                if (i == pad.length()) {
                    return whole ? NONE : i;
                }
            }
            return NONE;
        }

        int undo() {
            if (history.isEmpty()) {
                return NOT_POSSIBLE;
            }
            now = history.removeFirst();
            return history.size();
        }

        int save(int slot) {
            if (slot < 0 || slot > 1) {
                return BAD_VALUE;
            }
            slots[slot] = now.copy();
            return now.store();
        }

        int restore(int slot) {
            if (slot < 0 || slot > 1) {
                return BAD_VALUE;
            }
            if (slots[slot] == null) {
                return NOT_POSSIBLE;
            }
            record();
            now = slots[slot].copy();
            return now.store();
        }
    }

    private static long seed = 20240229L;

    /** The same numbers in each run of the test. */
    private static int below(int bound) {
        seed = seed * 6364136223846793005L + 1442695040888963407L;
        return (int) ((seed >>> 33) % bound);
    }

    private static int near(int from, int to) {
        int[] far = {Integer.MIN_VALUE, Integer.MAX_VALUE, -1, from - 1, to + 1, to + 2};
        return below(12) == 0 ? far[below(far.length)] : from + below(to - from + 1);
    }

    private static String anyText() {
        String signs = "0123456789,,,,//1110xz";
        StringBuilder text = new StringBuilder();
        if (below(4) == 0) {
            for (int i = below(16); i > 0; i--) {
                text.append(signs.charAt(below(signs.length())));
            }
            return text.toString();
        }
        int pits = 1 + below(7);
        int most = 1 + below(below(3) == 0 ? 15 : 16 / pits + 1);
        for (int i = 0; i < pits; i++) {
            text.append(i > 0 ? "," : "").append(below(most + 1));
        }
        if (below(3) == 0) {
            text.append('/').append(below(5));
        }
        if (below(10) == 0) {
            text.insert(below(text.length() + 1), signs.charAt(below(signs.length())));
        }
        return text.toString();
    }

    private static long anyCharacters() {
        switch (below(6)) {
            case 0: return below(256);
            case 1: return (long) below(1 << 30) << 34 | below(1 << 30);
            case 2: return 0x3131313131313131L ^ 1L << below(64);
            default: return packed(anyText());
        }
    }

    private static long packed(String text) {
        long number = 0;
        for (int i = 0; i < text.length() && i < 8; i++) {
            number = number << 8 | text.charAt(i);
        }
        return number;
    }

    private static String last = "";
    private static int calls = 0;

    private static boolean same(String call, int got, int want) {
        calls++;
        last = call + " answered " + got + ", the model answers " + want;
        return got == want;
    }

    private static boolean putText(OneRowSeeds x, Model m, String text) {
        boolean same = true;
        for (int i = 0; i < text.length() && same; i++) {
            same = same("put(" + (int) text.charAt(i) + ")", x.put(text.charAt(i)), m.put(text.charAt(i)));
        }
        return same;
    }

    private static boolean anyChange(OneRowSeeds x, Model m) {
        int a;
        int b;
        switch (below(14)) {
            case 0:
                a = near(0, 2);
                b = near(0, 1);
                return same("set(" + a + ", " + b + ")", x.set(a, b), m.set(a, b));
            case 1:
                a = near(2, 6);
                b = near(1, below(2) == 0 ? 3 : 7);
                return same("begin(" + a + ", " + b + ")", x.begin(a, b), m.begin(a, b));
            case 2:
                a = near(2, 6);
                b = near(1, 14);
                return same("loadExact(" + a + ", " + b + ")", x.loadExact(a, b), m.loadExact(a, b));
            case 3:
                return same("load()", x.load(), m.load());
            case 4:
                return same("back()", x.back(), m.back());
            case 5:
                return same("play()", x.play(), m.play());
            case 6:
                return same("undo()", x.undo(), m.undo());
            case 7:
                a = near(0, 1);
                return same("save(" + a + ")", x.save(a), m.save(a));
            case 8:
                a = near(0, 1);
                return same("restore(" + a + ")", x.restore(a), m.restore(a));
            default:
                a = below(3) == 0 ? m.best(1) : near(0, m.now.pits() - 1);
                return same("sow(" + a + ")", x.sow(a), m.sow(a));
        }
    }

    private static boolean anyLook(OneRowSeeds x, Model m) {
        int a = near(0, m.now.pits() - 1);
        int b;
        switch (below(9)) {
            case 0:
                return same("pit(" + a + ")", x.pit(a), m.pit(a));
            case 1:
                b = near(0, 13);
                return same("count(" + b + ")", x.count(b), m.count(b));
            case 2:
                b = near(0, 20);
                return same("move(" + b + ")", x.move(b), m.move(b));
            case 3:
                b = near(0, 4);
                return same("ifSown(" + a + ", " + b + ")", x.ifSown(a, b), m.ifSown(a, b));
            case 4:
                b = near(0, m.now.pits());
                return same("ifSownHas(" + a + ", " + b + ")", x.ifSownHas(a, b), m.ifSownHas(a, b));
            case 5:
                a = near(0, 14);
                b = near(1, 6);
                return same("exact(" + a + ", " + b + ")", x.exact(a, b), m.exact(a, b));
            case 6:
                return same("fault()", x.fault(), m.fault());
            default:
                b = near(0, 3);
                return same("best(" + b + ")", x.best(b), m.best(b));
        }
    }

    private static boolean anyText(OneRowSeeds x, Model m) {
        switch (below(8)) {
            case 0:
                return same("wipe()", x.wipe(), m.wipe());
            case 1:
            case 2:
                long characters = anyCharacters();
                return same("put(" + characters + ")", x.put(characters), m.put(characters));
            default:
                return same("wipe()", x.wipe(), m.wipe()) && putText(x, m, anyText())
                        && same("fault()", x.fault(), m.fault()) && same("load()", x.load(), m.load());
        }
    }

    private static boolean sameState(OneRowSeeds x, Model m) {
        boolean same = true;
        for (int what = 0; what <= 13 && same; what++) {
            same = same("count(" + what + ")", x.count(what), m.count(what));
        }
        for (int pit = 0; pit < m.now.pits() && same; pit++) {
            same = same("pit(" + pit + ")", x.pit(pit), m.pit(pit));
        }
        for (int ago = 0; ago <= m.now.kept.size() && same; ago++) {
            same = same("move(" + ago + ")", x.move(ago), m.move(ago));
        }
        return same;
    }

    private static boolean run(int number) {
        OneRowSeeds x = new OneRowSeeds();
        Model m = new Model();
        StringBuilder told = new StringBuilder();
        calls = 0;
        while (calls < LAST_STEP) {
            int kind = below(10);
            boolean same = kind < 5 ? anyChange(x, m) : kind < 8 ? anyLook(x, m) : anyText(x, m);
            told.append(last).append('\n');
            if (!same || below(6) == 0 && !sameState(x, m)) {
                System.out.println("run " + number + ":\n" + told + last);
                return false;
            }
        }
        return true;
    }

    public static void main(String[] args) {
        for (int number = 0; number < RUNS; number++) {
            if (!run(number)) {
                System.exit(1);
            }
        }
        System.out.println(RUNS + " runs answer as the model does");
    }
}
