import java.util.Arrays;

/**
 * A ballot by strongest ways: rankings told as texts and counted, links by four measures, ways as
 * strong as their weakest link, and who would be first were something else than it is.
 *
 * <p>The words in capitals are those of the document that the class keeps to. A set of candidates
 * is an int with a bit for each; no call makes an object, as all rows are made by the constructors.
 */
public final class BallotWays {
    public static final int NONE = -1, BAD = -2, STATE = -3, FULL = -4;
    public static final long NO = Long.MIN_VALUE;

    private static final int ABSENT = -5, NOTHING = -11, BEYOND = -13, BELOW = -14, FAULTY = -100;

    private static final int FEWEST_CANDIDATES = 2, FIRST_CANDIDATES = 3, MOST_CANDIDATES = 8;
    private static final int CELLS = MOST_CANDIDATES * MOST_CANDIDATES;
    private static final int MOST_BALLOTS = 40, MOST_COUNT = 1000000, COUNT_FIGURES = 7;
    private static final int MEASURES = 4, RATIO = 2;
    private static final int TAPE_BYTES = 120, PAPER_BYTES = 16, LAST_BYTE = 127;
    private static final int MOST_IN_THOUGHT = 500;
    private static final int PLACE_ASKED = 10;

    private final Poll poll;
    private final Poll kept;
    private final Poll draft;
    private final Ways ways;
    private final Tape tape;
    private final Lists lists;
    private final Paper sheet;
    private boolean keeps;

    public BallotWays() {
        poll = new Poll();
        kept = new Poll();
        draft = new Poll();
        ways = new Ways();
        tape = new Tape();
        lists = new Lists();
        sheet = new Paper();
        keeps = false;
    }

    // ---- what is told

    public int begin(int n) {
        if (n < FEWEST_CANDIDATES || n > MOST_CANDIDATES) {
            return BAD;
        }
        int was = poll.size;
        poll.start(n);
        return was;
    }

    public int out(int candidate, int is) {
        if (!poll.has(candidate) || is < 0 || is > 1) {
            return NONE;
        }
        int bit = 1 << candidate;
        if (is == 1 && (poll.ins() & ~bit) == 0) {
            return STATE;
        }
        int was = poll.isIn(candidate) ? 0 : 1;
        poll.outs = is == 1 ? poll.outs | bit : poll.outs & ~bit;
        return was;
    }

    public int measure(int measure) {
        if (measure < 0 || measure >= MEASURES) {
            return NONE;
        }
        int was = poll.rule;
        poll.rule = measure;
        return was;
    }

    public int ahead(int candidate) {
        return poll.has(candidate) ? poll.drawFirst(candidate) : NONE;
    }

    public int shuffle(int seed) {
        poll.drawBySeed(seed);
        return poll.drawnAt(0);
    }

    public int drawn(int k) {
        return poll.drawnAt(k);
    }

    public int feed(int letter) {
        if (letter < 1 || letter > LAST_BYTE) {
            return BAD;
        }
        return tape.takeByte(letter) ? tape.length : FULL;
    }

    public int clear() {
        return tape.wipe();
    }

    public int ballots() {
        draft.become(poll);
        int answer = readParts();
        tape.wipe();
        if (answer >= 0) {
            poll.become(draft);
        }
        return answer;
    }

    public int remove(int ballot, int c) {
        if (!poll.hasBallot(ballot)) {
            return NONE;
        }
        if (c < 1 || c > poll.countOf(ballot)) {
            return BAD;
        }
        return poll.lessen(ballot, c);
    }

    public int ballot(int ballot, int what) {
        if (!poll.hasBallot(ballot)) {
            return NONE;
        }
        int ranking = poll.rankingOf(ballot);
        if (what == 0) {
            return poll.countOf(ballot);
        }
        if (what == 1) {
            return placesIn(ranking);
        }
        if (what < PLACE_ASKED || what >= PLACE_ASKED + poll.size) {
            return NONE;
        }
        return placeOf(ranking, what - PLACE_ASKED);
    }

    public int find() {
        int fault = readRankingAlone();
        if (fault != NONE) {
            return FAULTY - fault;
        }
        int found = poll.ballotOf(tape.ranking);
        return found == NONE ? ABSENT : found;
    }

    public int spell(int ballot) {
        if (!poll.hasBallot(ballot)) {
            return NONE;
        }
        return sheet.write(poll.rankingOf(ballot), poll.size);
    }

    public int paper(int i) {
        return sheet.byteAt(i);
    }

    // ---- pairs, ways

    public long pair(int i, int j) {
        return poll.hasTwo(i, j) ? poll.forOver(i, j) : NO;
    }

    public int link(int i, int j) {
        if (!poll.hasTwo(i, j)) {
            return NONE;
        }
        boolean linked = poll.isIn(i) && poll.isIn(j) && poll.forOver(i, j) > poll.forOver(j, i);
        return linked ? 1 : 0;
    }

    public long strength(int i, int j, int part) {
        if (!poll.hasTwo(i, j) || part < 0 || part > 1 || !poll.isIn(i) || !poll.isIn(j)) {
            return NO;
        }
        lookAtWays();
        int weakest = ways.cellAsStrongAs(i, j);
        return weakest == NONE ? NO : ways.strengthTold(weakest, part);
    }

    public int way(int i, int j, int k) {
        if (!poll.hasTwo(i, j) || k < -1) {
            return NONE;
        }
        if (!poll.isIn(i) || !poll.isIn(j)) {
            return STATE;
        }
        lookAtWays();
        int many = ways.walk(i, j);
        if (many == 0) {
            return ABSENT;
        }
        return k == -1 ? many : ways.stepOf(k);
    }

    public int barrier(int i, int j) {
        if (!poll.hasTwo(i, j)) {
            return NONE;
        }
        if (!poll.isIn(i) || !poll.isIn(j)) {
            return STATE;
        }
        lookAtWays();
        return ways.reachedBetter(i, j);
    }

    public int beats(int i, int j) {
        if (!poll.hasTwo(i, j)) {
            return NONE;
        }
        if (!poll.isIn(i) || !poll.isIn(j)) {
            return STATE;
        }
        lookAtWays();
        return ways.isOver(i, j) ? 1 : 0;
    }

    public int winners() {
        lookAtWays();
        return ways.unbeaten(poll.ins());
    }

    public int ranked(int k) {
        lookAtWays();
        return ways.rankedAt(k);
    }

    public int rank(int candidate) {
        if (!poll.has(candidate)) {
            return NONE;
        }
        if (!poll.isIn(candidate)) {
            return STATE;
        }
        lookAtWays();
        return ways.placeByRanks(candidate);
    }

    public int smith() {
        lookAtWays();
        return ways.leastTopSet();
    }

    public int clones(int k) {
        if (k < -1) {
            return NONE;
        }
        int found = 0;
        // Each part of a set is a lesser number than the set, so all that are IN are never met.
        for (int some = 1; some < poll.ins(); some++) {
            if (poll.areClones(some)) {
                if (found == k) {
                    return some;
                }
                found++;
            }
        }
        return k == -1 ? found : NONE;
    }

    public long sum(int candidate, int what) {
        if (!poll.has(candidate) || what < 0 || what > 1 || !poll.isIn(candidate)) {
            return NO;
        }
        return what == 0 ? poll.sumOfPlaces(candidate) : poll.leadsOf(candidate);
    }

    // ---- in thought

    public int without(int candidate) {
        if (!poll.has(candidate)) {
            return NONE;
        }
        if ((poll.ins() & ~(1 << candidate)) == 0) {
            return STATE;
        }
        ways.load(poll);
        ways.leaveOut(candidate);
        return ways.first();
    }

    public int would(int c) {
        if (c < 1 || c > MOST_COUNT) {
            return BAD;
        }
        int fault = readRankingAlone();
        if (fault != NONE) {
            return FAULTY - fault;
        }
        ways.load(poll);
        ways.count(tape.ranking, c);
        return ways.first();
    }

    public int needs(int candidate) {
        if (!poll.has(candidate)) {
            return NONE;
        }
        if (!poll.isIn(candidate)) {
            return STATE;
        }
        int fault = readRankingAlone();
        if (fault != NONE) {
            return FAULTY - fault;
        }
        ways.load(poll);
        for (int c = 1; c <= MOST_IN_THOUGHT; c++) {
            ways.count(tape.ranking, 1);
            if (ways.first() == candidate) {
                return c;
            }
        }
        return ABSENT;
    }

    public long turners() {
        long bits = 0;
        for (int ballot = 0; ballot < MOST_BALLOTS; ballot++) {
            if (leastTurn(ballot, 1) == 1) {
                bits |= 1L << ballot;
            }
        }
        return bits;
    }

    public int agree() {
        ways.load(poll);
        int first = ways.first();
        int bits = 0;
        for (int rule = 0; rule < MEASURES; rule++) {
            ways.goBy(rule);
            if (ways.first() == first) {
                bits |= 1 << rule;
            }
        }
        return bits;
    }

    public int flips(int ballot) {
        return poll.hasBallot(ballot) ? leastTurn(ballot, MOST_IN_THOUGHT) : NONE;
    }

    // ---- proofs, rows, the image

    public int prove(int list, int p, int i, int j) {
        if (!poll.has(i) || !poll.has(j) || !lists.has(list)) {
            return NONE;
        }
        if (!poll.isIn(i) || !poll.isIn(j)) {
            return STATE;
        }
        lookAtWays();
        if (!ways.isOver(i, j)) {
            return STATE;
        }
        if (!lists.holds(list)) {
            return NOTHING;
        }
        int many = ways.walk(i, j);
        boolean all = lists.lay(list, p, 0, many);
        for (int k = 0; k < many; k++) {
            all = lists.lay(list, p, k + 1, ways.stepOf(k)) && all;
        }
        all = lists.lay(list, p, many + 1, ways.reachedBetter(j, i)) && all;
        return all ? many + 2 : BEYOND;
    }

    public int proves(int list, int p, int i, int j) {
        if (!poll.has(i) || !poll.has(j) || !lists.has(list)) {
            return NONE;
        }
        if (!poll.isIn(i) || !poll.isIn(j)) {
            return STATE;
        }
        if (!lists.holds(list)) {
            return NOTHING;
        }
        lookAtWays();
        return isProof(list, p, i, j) ? 1 : 0;
    }

    public int told(int what) {
        switch (what) {
            case 0:
                return poll.size;
            case 1:
                return poll.filled;
            case 2:
                return poll.allCounts();
            case 3:
                return poll.outs;
            case 4:
                return poll.rule;
            case 5:
                return tape.length;
            case 6:
                return sheet.length;
            case 7:
                lookAtWays();
                return ways.manyLinks();
            case 8:
                lookAtWays();
                return ways.manyOver();
            default:
                return NONE;
        }
    }

    public int list(int list, int n) {
        if (!lists.has(list)) {
            return NONE;
        }
        if (n > Lists.PLACES) {
            return BAD;
        }
        if (n < 0) {
            return BELOW;
        }
        lists.start(list, n);
        return 1;
    }

    public int set(int list, int i, long v) {
        if (!lists.has(list)) {
            return NONE;
        }
        if (!lists.holds(list)) {
            return NOTHING;
        }
        return lists.lay(list, i, 0, v) ? 1 : BEYOND;
    }

    public long get(int list, int i) {
        return lists.reaches(list, i, 0) ? lists.read(list, i, 0) : NO;
    }

    public int image() {
        kept.become(poll);
        keeps = true;
        return poll.filled;
    }

    public int undo() {
        if (!keeps) {
            return STATE;
        }
        poll.become(kept);
        return poll.filled;
    }

    // ---- what several calls use

    private void lookAtWays() {
        ways.load(poll);
        ways.reckon();
    }

    /** THE TAPE as a RANKING alone: its FAULT, or NONE; THE TAPE is empty then. */
    private int readRankingAlone() {
        tape.rewind();
        boolean right = tape.readRanking(poll.size) && tape.isRead();
        int fault = right ? NONE : tape.next;
        tape.wipe();
        return fault;
    }

    /** THE TAPE as BALLOTS, counted on the draft, as a FAULT leaves all as it was. */
    private int readParts() {
        tape.rewind();
        for (int parts = 1; parts <= TAPE_BYTES; parts++) {
            int from = tape.next;
            if (!tape.readCount() || !tape.readRanking(draft.size)) {
                return FAULTY - tape.next;
            }
            if (!draft.add(tape.ranking, tape.count)) {
                return FAULTY - from;
            }
            if (tape.isRead()) {
                return parts;
            }
            if (!tape.passes(';')) {
                return FAULTY - tape.next;
            }
        }
        return FAULTY - tape.next;
    }

    /** The least c up to a bound by which, were a BALLOT's COUNT c less, FIRST were another; ABSENT. */
    private int leastTurn(int ballot, int bound) {
        if (!poll.hasBallot(ballot)) {
            return ABSENT;
        }
        ways.load(poll);
        int first = ways.first();
        int most = Math.min(bound, poll.countOf(ballot));
        for (int c = 1; c <= most; c++) {
            ways.count(poll.rankingOf(ballot), -1);
            if (ways.first() != first) {
                return c;
            }
        }
        return ABSENT;
    }

    private boolean isProof(int list, int p, int i, int j) {
        if (!lists.reaches(list, p, 0)) {
            return false;
        }
        long many = lists.read(list, p, 0);
        if (many < 2 || many > MOST_CANDIDATES || !lists.reaches(list, p, (int) many + 1)) {
            return false;
        }
        int steps = (int) many;
        if (lists.read(list, p, 1) != i || lists.read(list, p, steps) != j) {
            return false;
        }
        long strong = strengthOfRow(list, p, steps);
        long some = lists.read(list, p, steps + 1);
        if (strong == 0 || some < 0 || some > poll.all()) {
            return false;
        }
        int bits = (int) some;
        return hasBit(bits, j) && !hasBit(bits, i) && ways.strongestOutOf(bits) < strong;
    }

    /** Of steps told behind place p of a LIST, the weakest LINK; 0, if they aren't a WAY. */
    private long strengthOfRow(int list, int p, int steps) {
        int met = 0;
        int before = NONE;
        long weakest = Long.MAX_VALUE;
        for (int k = 1; k <= steps; k++) {
            long step = lists.read(list, p, k);
            if (step < 0 || step >= poll.size || hasBit(met, (int) step)) {
                return 0;
            }
            int candidate = (int) step;
            if (before != NONE) {
                weakest = Math.min(weakest, ways.linkStrength(before, candidate));
            }
            met |= 1 << candidate;
            before = candidate;
        }
        return weakest;
    }

    private static boolean hasBit(int bits, int candidate) {
        return (bits >> candidate & 1) != 0;
    }

    /** A RANKING is an int with the PLACE of candidate c in the three bits from 3 * c on. */
    private static int placeOf(int ranking, int candidate) {
        return ranking >>> 3 * candidate & 7;
    }

    private static int withPlace(int ranking, int candidate, int place) {
        return ranking | (place & 7) << 3 * candidate;
    }

    /** No PLACE is skipped, so the greatest tells how many there are. */
    private static int placesIn(int ranking) {
        int last = 0;
        for (int c = 0; c < MOST_CANDIDATES; c++) {
            last = Math.max(last, placeOf(ranking, c));
        }
        return last + 1;
    }

    private static int cell(int i, int j) {
        return MOST_CANDIDATES * i + j;
    }

    /** Adds to FOR of all twos what a RANKING that comes c times more is for. */
    private static void countPairs(int[] fors, int size, int ranking, int c) {
        for (int i = 0; i < size && i < MOST_CANDIDATES; i++) {
            for (int j = 0; j < size && j < MOST_CANDIDATES; j++) {
                int at = cell(i, j);
                if (at < fors.length && placeOf(ranking, i) < placeOf(ranking, j)) {
                    fors[at] += c;
                }
            }
        }
    }

    /** All that THE IMAGE keeps. */
    private static final class Poll {
        private int size;
        private int outs;
        private int rule;
        private int filled;
        private final int[] rankings;
        private final int[] counts;
        private final int[] draw;
        private final int[] fors;

        Poll() {
            rankings = new int[MOST_BALLOTS];
            counts = new int[MOST_BALLOTS];
            draw = new int[MOST_CANDIDATES];
            fors = new int[CELLS];
            rule = 0;
            start(FIRST_CANDIDATES);
        }

        void start(int n) {
            size = n;
            outs = 0;
            filled = 0;
            Arrays.fill(fors, 0);
            drawByNumbers();
        }

        void become(Poll other) {
            size = other.size;
            outs = other.outs;
            rule = other.rule;
            filled = other.filled;
            System.arraycopy(other.rankings, 0, rankings, 0, MOST_BALLOTS);
            System.arraycopy(other.counts, 0, counts, 0, MOST_BALLOTS);
            System.arraycopy(other.draw, 0, draw, 0, MOST_CANDIDATES);
            System.arraycopy(other.fors, 0, fors, 0, CELLS);
        }

        boolean has(int candidate) {
            return candidate >= 0 && candidate < size;
        }

        boolean hasTwo(int i, int j) {
            return has(i) && has(j) && i != j;
        }

        boolean hasBallot(int ballot) {
            return ballot >= 0 && ballot < filled && ballot < MOST_BALLOTS;
        }

        int all() {
            return (1 << size) - 1;
        }

        int ins() {
            return all() & ~outs;
        }

        boolean isIn(int candidate) {
            return has(candidate) && !hasBit(outs, candidate);
        }

        int countOf(int ballot) {
            return hasBallot(ballot) ? counts[ballot] : 0;
        }

        int rankingOf(int ballot) {
            return hasBallot(ballot) ? rankings[ballot] : 0;
        }

        int forOver(int i, int j) {
            return has(i) && has(j) ? fors[cell(i, j)] : 0;
        }

        int ballotOf(int ranking) {
            for (int b = 0; b < filled && b < MOST_BALLOTS; b++) {
                if (rankings[b] == ranking) {
                    return b;
                }
            }
            return NONE;
        }

        int allCounts() {
            int all = 0;
            for (int b = 0; b < filled && b < MOST_BALLOTS; b++) {
                all += counts[b];
            }
            return all;
        }

        /** Whether there was room for a RANKING c times more; if not, nothing is changed. */
        boolean add(int ranking, int c) {
            int b = ballotOf(ranking);
            if (b == NONE) {
                b = filled;
                if (b < 0 || b >= MOST_BALLOTS) {
                    return false;
                }
                rankings[b] = ranking;
                counts[b] = 0;
            }
            if (counts[b] + c > MOST_COUNT) {
                return false;
            }
            counts[b] += c;
            filled = Math.max(filled, b + 1);
            countPairs(fors, size, ranking, c);
            return true;
        }

        int lessen(int ballot, int c) {
            if (!hasBallot(ballot)) {
                return 0;
            }
            countPairs(fors, size, rankings[ballot], -c);
            counts[ballot] -= c;
            int left = counts[ballot];
            if (left == 0) {
                closeUp(ballot);
            }
            return left;
        }

        private void closeUp(int ballot) {
            filled--;
            for (int b = Math.max(ballot, 0); b < filled && b + 1 < MOST_BALLOTS; b++) {
                rankings[b] = rankings[b + 1];
                counts[b] = counts[b + 1];
            }
        }

        private void drawByNumbers() {
            for (int k = 0; k < MOST_CANDIDATES; k++) {
                draw[k] = k;
            }
        }

        int drawnAt(int k) {
            return has(k) && k < MOST_CANDIDATES ? draw[k] : NONE;
        }

        void drawBySeed(int seed) {
            drawByNumbers();
            int z = seed;
            for (int k = Math.min(size, MOST_CANDIDATES) - 1; k >= 1; k--) {
                z = z * 1103515245 + 12345;
                int other = (z >>> 9) % (k + 1);
                int moved = draw[k];
                draw[k] = draw[other];
                draw[other] = moved;
            }
        }

        /** Puts a CANDIDATE ahead of all in THE DRAW: the place that it had. */
        int drawFirst(int candidate) {
            int had = 0;
            for (int k = 0; k < size && k < MOST_CANDIDATES; k++) {
                if (draw[k] == candidate) {
                    had = k;
                }
            }
            for (int k = had; k >= 1; k--) {
                draw[k] = draw[k - 1];
            }
            draw[0] = candidate;
            return had;
        }

        boolean areClones(int some) {
            if ((some & ~ins()) != 0 || Integer.bitCount(some) < 2) {
                return false;
            }
            for (int b = 0; b < filled && b < MOST_BALLOTS; b++) {
                if (!standTogether(rankings[b], some)) {
                    return false;
                }
            }
            return true;
        }

        /** Whether no other one that is IN has a PLACE from the best to the last of the set. */
        private boolean standTogether(int ranking, int some) {
            int best = MOST_CANDIDATES;
            int last = 0;
            for (int c = 0; c < size; c++) {
                if (hasBit(some, c)) {
                    best = Math.min(best, placeOf(ranking, c));
                    last = Math.max(last, placeOf(ranking, c));
                }
            }
            int others = ins() & ~some;
            for (int c = 0; c < size; c++) {
                int place = placeOf(ranking, c);
                if (hasBit(others, c) && place >= best && place <= last) {
                    return false;
                }
            }
            return true;
        }

        long sumOfPlaces(int candidate) {
            long sum = 0;
            for (int b = 0; b < filled && b < MOST_BALLOTS; b++) {
                sum += (long) counts[b] * manyBehind(rankings[b], candidate);
            }
            return sum;
        }

        long leadsOf(int candidate) {
            int others = Integer.bitCount(ins() & ~(1 << candidate));
            long leads = 0;
            for (int b = 0; b < filled && b < MOST_BALLOTS; b++) {
                if (manyBehind(rankings[b], candidate) == others) {
                    leads += counts[b];
                }
            }
            return leads;
        }

        /** How many that are IN are in a greater PLACE than a CANDIDATE. */
        private int manyBehind(int ranking, int candidate) {
            int many = 0;
            for (int c = 0; c < size; c++) {
                if (isIn(c) && placeOf(ranking, c) > placeOf(ranking, candidate)) {
                    many++;
                }
            }
            return many;
        }
    }

    /**
     * LINKS, WAYS and what follows of them, as the poll is or, changed behind load(), in thought. A
     * strength is a number above 0, the more the stronger by every MEASURE, and 0 where there is none.
     */
    private static final class Ways {
        /** FOR is at most 41 millions: 40 BALLOTS of a million and would()'s. */
        private static final int FOR_BITS = 26;
        private static final long FOR_BOUND = 1L << FOR_BITS;
        private static final long WHOLE = 1L << 2 * FOR_BITS;
        private static final int FAR = 99;

        private int size;
        private int ins;
        private int rule;
        private int steps;
        private final int[] fors;
        private final int[] draw;
        private final long[] links;
        private final long[] best;
        private final int[] beaters;
        private final int[] distances;
        private final int[] route;

        Ways() {
            fors = new int[CELLS];
            draw = new int[MOST_CANDIDATES];
            links = new long[CELLS];
            best = new long[CELLS];
            beaters = new int[MOST_CANDIDATES];
            distances = new int[MOST_CANDIDATES];
            route = new int[MOST_CANDIDATES];
        }

        void load(Poll poll) {
            size = Math.min(poll.size, MOST_CANDIDATES);
            ins = poll.ins();
            rule = poll.rule;
            steps = 0;
            System.arraycopy(poll.fors, 0, fors, 0, CELLS);
            System.arraycopy(poll.draw, 0, draw, 0, MOST_CANDIDATES);
        }

        void leaveOut(int candidate) {
            ins &= ~(1 << candidate);
        }

        void count(int ranking, int c) {
            countPairs(fors, size, ranking, c);
        }

        void goBy(int measure) {
            rule = measure;
        }

        void reckon() {
            for (int i = 0; i < size; i++) {
                for (int j = 0; j < size; j++) {
                    long strong = linkBetween(i, j);
                    links[cell(i, j)] = strong;
                    best[cell(i, j)] = strong;
                }
            }
            for (int middle = 0; middle < size; middle++) {
                for (int i = 0; i < size; i++) {
                    goThrough(i, middle);
                }
            }
            for (int c = 0; c < size; c++) {
                beaters[c] = beatersOf(c);
            }
        }

        private void goThrough(int i, int middle) {
            int row = cell(i, 0);
            int middleRow = cell(middle, 0);
            long before = best[row + middle];
            if (before == 0) {
                return;
            }
            for (int j = 0; j < size; j++) {
                long whole = Math.min(before, best[middleRow + j]);
                if (j != i && whole > best[row + j]) {
                    best[row + j] = whole;
                }
            }
        }

        private int beatersOf(int candidate) {
            int bits = 0;
            for (int c = 0; c < size; c++) {
                if (best[cell(c, candidate)] > best[cell(candidate, c)]) {
                    bits |= 1 << c;
                }
            }
            return bits;
        }

        private long linkBetween(int i, int j) {
            int above = fors[cell(i, j)];
            int against = fors[cell(j, i)];
            if (above <= against || !hasBit(ins, i) || !hasBit(ins, j)) {
                return 0;
            }
            switch (rule) {
                case 0:
                    return above;
                case 1:
                    return above - against;
                case RATIO:
                    return ratioStrength(above, against);
                default:
                    return FOR_BOUND - against;
            }
        }

        /**
         * As fractions of numbers below 2^25.5 differ by more than 2^-51, if at all, the first 52
         * bits behind the point of against / above tell unlike ones apart.
         */
        private static long ratioStrength(int above, int against) {
            if (against <= 0 || above <= 0) {
                return WHOLE + above;
            }
            long shifted = (long) against << FOR_BITS;
            long high = shifted / above;
            long low = (shifted % above << FOR_BITS) / above;
            return WHOLE - ((high << FOR_BITS) + low);
        }

        private boolean knows(int i, int j) {
            return i >= 0 && i < size && j >= 0 && j < size;
        }

        long linkStrength(int i, int j) {
            return knows(i, j) ? links[cell(i, j)] : 0;
        }

        private long bestStrength(int i, int j) {
            return knows(i, j) ? best[cell(i, j)] : 0;
        }

        boolean isOver(int i, int j) {
            return knows(i, j) && hasBit(beaters[j], i);
        }

        /** The cell of a LINK that is as strong as P of i to j: all such tell the same numbers. */
        int cellAsStrongAs(int i, int j) {
            long strong = bestStrength(i, j);
            if (strong == 0) {
                return NONE;
            }
            for (int a = 0; a < size; a++) {
                for (int b = 0; b < size; b++) {
                    if (links[cell(a, b)] == strong) {
                        return cell(a, b);
                    }
                }
            }
            return NONE;
        }

        long strengthTold(int at, int part) {
            int i = Math.floorDiv(at, MOST_CANDIDATES);
            int j = Math.floorMod(at, MOST_CANDIDATES);
            if (!knows(i, j)) {
                return NO;
            }
            int above = fors[cell(i, j)];
            int against = fors[cell(j, i)];
            if (rule == RATIO) {
                int common = against == 0 ? 1 : commonDivisor(above, against);
                return (part == 0 ? above : against) / Math.max(common, 1);
            }
            if (part == 1) {
                return 1;
            }
            if (rule == 0) {
                return above;
            }
            return rule == 1 ? above - against : against;
        }

        /** Euclid's: the lesser number halves in two turns, so 64 are more than ints need. */
        private static int commonDivisor(int a, int b) {
            int more = a;
            int less = b;
            for (int turn = 0; turn < 64 && less != 0; turn++) {
                int rest = more % less;
                more = less;
                less = rest;
            }
            return more;
        }

        /** Lays THE WAY from i to j onto the route: how many CANDIDATES; 0, if there is none. */
        int walk(int i, int j) {
            steps = 0;
            long strong = bestStrength(i, j);
            if (strong == 0) {
                return 0;
            }
            tellDistances(j, strong);
            int at = i;
            for (int k = 0; k < MOST_CANDIDATES && at >= 0 && at < size; k++) {
                route[k] = at;
                steps = k + 1;
                if (at == j) {
                    return steps;
                }
                at = nextStep(at, distances[at] - 1, strong);
            }
            return 0;
        }

        /** Of each CANDIDATE the fewest LINKS to the aim, none weaker than told. */
        private void tellDistances(int aim, long strong) {
            for (int c = 0; c < size; c++) {
                distances[c] = c == aim ? 0 : FAR;
            }
            for (int far = 1; far < size; far++) {
                for (int c = 0; c < size; c++) {
                    if (distances[c] == FAR && nextStep(c, far - 1, strong) != NONE) {
                        distances[c] = far;
                    }
                }
            }
        }

        /** The least CANDIDATE behind c that is so far from the aim. */
        private int nextStep(int c, int far, long strong) {
            for (int next = 0; next < size; next++) {
                if (distances[next] == far && linkStrength(c, next) >= strong) {
                    return next;
                }
            }
            return NONE;
        }

        int stepOf(int k) {
            return k >= 0 && k < steps && k < MOST_CANDIDATES ? route[k] : NONE;
        }

        /** BARRIER from i to j. */
        int reachedBetter(int i, int j) {
            int bits = 1 << i;
            for (int c = 0; c < size; c++) {
                if (c != i && bestStrength(i, c) > bestStrength(i, j)) {
                    bits |= 1 << c;
                }
            }
            return bits;
        }

        /** Those of some whom no one of them BEATS. */
        int unbeaten(int some) {
            int bits = 0;
            for (int c = 0; c < size; c++) {
                if (hasBit(some, c) && (beaters[c] & some) == 0) {
                    bits |= 1 << c;
                }
            }
            return bits;
        }

        private int firstOf(int some) {
            int free = unbeaten(some);
            for (int k = 0; k < size; k++) {
                if (hasBit(free, draw[k])) {
                    return draw[k];
                }
            }
            return NONE;
        }

        /** FIRST, by all that has been changed in thought. */
        int first() {
            reckon();
            return firstOf(ins);
        }

        int rankedAt(int k) {
            int left = ins;
            for (int place = 0; place < size && left != 0; place++) {
                int candidate = firstOf(left);
                if (place == k) {
                    return candidate;
                }
                left &= ~(1 << candidate);
            }
            return NONE;
        }

        int placeByRanks(int candidate) {
            for (int place = 0; place < size; place++) {
                if (rankedAt(place) == candidate) {
                    return place;
                }
            }
            return NONE;
        }

        /** SMITH: of what grows from each CANDIDATE the least; of two such one is part of the other. */
        int leastTopSet() {
            int least = ins;
            for (int c = 0; c < size; c++) {
                if (hasBit(ins, c)) {
                    int grown = grow(1 << c);
                    least = Integer.bitCount(grown) < Integer.bitCount(least) ? grown : least;
                }
            }
            return least;
        }

        /** Takes in all to which one of the set has no LINK, until there is none. */
        private int grow(int seed) {
            int grown = seed;
            for (int turn = 0; turn < size; turn++) {
                for (int c = 0; c < size; c++) {
                    if (hasBit(grown, c)) {
                        grown |= unlinkedFrom(c);
                    }
                }
            }
            return grown;
        }

        private int unlinkedFrom(int candidate) {
            int bits = 0;
            for (int c = 0; c < size; c++) {
                if (hasBit(ins, c) && linkStrength(candidate, c) == 0) {
                    bits |= 1 << c;
                }
            }
            return bits;
        }

        /** The strongest LINK from one of a set to one that is not of it; 0, if there is none. */
        long strongestOutOf(int some) {
            long strongest = 0;
            for (int i = 0; i < size; i++) {
                for (int j = 0; j < size; j++) {
                    if (hasBit(some, i) && !hasBit(some, j)) {
                        strongest = Math.max(strongest, links[cell(i, j)]);
                    }
                }
            }
            return strongest;
        }

        int manyLinks() {
            int many = 0;
            for (int i = 0; i < size; i++) {
                for (int j = 0; j < size; j++) {
                    many += links[cell(i, j)] != 0 ? 1 : 0;
                }
            }
            return many;
        }

        int manyOver() {
            int many = 0;
            for (int i = 0; i < size; i++) {
                many += Integer.bitCount(beaters[i]);
            }
            return many;
        }
    }

    /** THE TAPE, and reading on it: where reading fails, next is the FAULT. */
    private static final class Tape {
        private final int[] bytes;
        private int length;
        private int next;
        private int ranking;
        private int count;

        Tape() {
            bytes = new int[TAPE_BYTES];
            length = 0;
            next = 0;
        }

        boolean takeByte(int letter) {
            if (length < 0 || length >= TAPE_BYTES) {
                return false;
            }
            bytes[length] = letter;
            length++;
            return true;
        }

        int wipe() {
            int had = length;
            length = 0;
            return had;
        }

        void rewind() {
            next = 0;
        }

        boolean isRead() {
            return next >= length;
        }

        /** The byte at next; 0, which no byte is, behind the last. */
        private int sign() {
            return next >= 0 && next < length && next < TAPE_BYTES ? bytes[next] : 0;
        }

        boolean passes(int sign) {
            if (sign() != sign) {
                return false;
            }
            next++;
            return true;
        }

        /** The figure at next; NONE, if there is none. */
        private int figure() {
            int met = sign();
            return met >= '0' && met <= '9' ? met - '0' : NONE;
        }

        /** A COUNT and the : behind it. */
        boolean readCount() {
            int from = next;
            int number = 0;
            for (int k = 0; k < COUNT_FIGURES && figure() != NONE; k++) {
                number = number * 10 + figure();
                next++;
            }
            if (number < 1 || number > MOST_COUNT) {
                next = from;
                return false;
            }
            count = number;
            return passes(':');
        }

        /** A RANKING, as far as it goes on. */
        boolean readRanking(int size) {
            int met = 0;
            int place = 0;
            ranking = 0;
            for (int k = 0; k < MOST_CANDIDATES; k++) {
                int candidate = figure();
                if (candidate == NONE || candidate >= size || hasBit(met, candidate)) {
                    return false;
                }
                next++;
                met |= 1 << candidate;
                ranking = withPlace(ranking, candidate, place);
                if (passes('>')) {
                    place++;
                } else if (!passes('=')) {
                    placeOthers(size, met, place + 1);
                    return true;
                }
            }
            return false;
        }

        private void placeOthers(int size, int met, int place) {
            for (int c = 0; c < size && c < MOST_CANDIDATES; c++) {
                if (!hasBit(met, c)) {
                    ranking = withPlace(ranking, c, place);
                }
            }
        }
    }

    /** THE PAPER: a RANKING of eight, SPELLED, has 15 bytes at most. */
    private static final class Paper {
        private final int[] bytes;
        private int length;

        Paper() {
            bytes = new int[PAPER_BYTES];
            length = 0;
        }

        int byteAt(int i) {
            return i >= 0 && i < length && i < PAPER_BYTES ? bytes[i] : NONE;
        }

        int write(int ranking, int size) {
            length = 0;
            int places = placesIn(ranking);
            int spelled = places == 1 ? 1 : places - 1;
            for (int place = 0; place < spelled; place++) {
                int sign = '>';
                for (int c = 0; c < size; c++) {
                    if (placeOf(ranking, c) == place) {
                        writeBehind(sign, '0' + c);
                        sign = '=';
                    }
                }
            }
            return length;
        }

        private void writeBehind(int sign, int figure) {
            if (length > 0) {
                writeByte(sign);
            }
            writeByte(figure);
        }

        private void writeByte(int sign) {
            if (length >= 0 && length < PAPER_BYTES) {
                bytes[length] = sign;
                length++;
            }
        }
    }

    /** LISTS 0 .. 3, each with 40 cells; its size is NONE while it holds nothing. */
    private static final class Lists {
        private static final int LISTS = 4;
        private static final int PLACES = 40;

        private final long[] cells;
        private final int[] sizes;

        Lists() {
            cells = new long[LISTS * PLACES];
            sizes = new int[LISTS];
            Arrays.fill(sizes, NONE);
        }

        boolean has(int number) {
            return number >= 0 && number < LISTS;
        }

        boolean holds(int number) {
            return has(number) && sizes[number] != NONE;
        }

        void start(int number, int n) {
            if (has(number)) {
                sizes[number] = n;
                for (int k = 0; k < PLACES; k++) {
                    cells[PLACES * number + k] = 0;
                }
            }
        }

        /** Whether there is the place that is so far behind place p: no sum of both, as it may wrap. */
        boolean reaches(int number, int p, int behind) {
            return holds(number) && p >= 0 && p < PLACES && behind >= 0 && behind < sizes[number] - p;
        }

        long read(int number, int p, int behind) {
            return reaches(number, p, behind) ? cells[PLACES * number + p + behind] : 0;
        }

        boolean lay(int number, int p, int behind, long v) {
            if (!reaches(number, p, behind)) {
                return false;
            }
            cells[PLACES * number + p + behind] = v;
            return true;
        }
    }
}
