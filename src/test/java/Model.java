import java.util.ArrayList;
import java.util.Arrays;
import java.util.List;

/**
 * The document in the most literal way: WAYS are all tried, links compared as fractions, sets all
 * looked at. It shares no code and no idea of how to reckon with BallotWays.
 */
final class Model {
    static final long NO = Long.MIN_VALUE;

    /** A BALLOT: the PLACE of each CANDIDATE, and how often. */
    static final class Vote {
        final int[] places;
        final long count;

        Vote(int[] places, long count) {
            this.places = places;
            this.count = count;
        }
    }

    /** What THE IMAGE keeps; changed in thought as a copy. */
    static final class World {
        int n = 3;
        boolean[] out = new boolean[8];
        List<Vote> votes = new ArrayList<>();
        List<Integer> draw = new ArrayList<>(List.of(0, 1, 2));
        int measure = 0;

        World copy() {
            World w = new World();
            w.n = n;
            w.out = out.clone();
            w.votes = new ArrayList<>(votes);
            w.draw = new ArrayList<>(draw);
            w.measure = measure;
            return w;
        }

        long over(int i, int j) {
            long all = 0;
            for (Vote v : votes) {
                all += v.places[i] < v.places[j] ? v.count : 0;
            }
            return all;
        }

        boolean linked(int i, int j) {
            return i != j && !out[i] && !out[j] && over(i, j) > over(j, i);
        }
    }

    /** A text that isn't as told. */
    static final class Fault extends RuntimeException {
        final int at;

        Fault(int at) {
            super(null, null, false, false);
            this.at = at;
        }
    }

    World world = new World();
    World image = null;
    String tape = "";
    String paper = "";
    long[][] lists = new long[4][];
    private int at;

    // ---- strengths, for one world with its FOR reckoned once

    static final class View {
        final World w;
        final long[][] over;
        final List<Integer>[][] best;

        @SuppressWarnings("unchecked")
        View(World w) {
            this.w = w;
            over = new long[w.n][w.n];
            for (int i = 0; i < w.n; i++) {
                for (int j = 0; j < w.n; j++) {
                    over[i][j] = i == j ? 0 : w.over(i, j);
                }
            }
            best = new List[w.n][w.n];
            for (int i = 0; i < w.n; i++) {
                List<Integer> way = new ArrayList<>();
                way.add(i);
                tryAll(way);
            }
        }

        private void tryAll(List<Integer> way) {
            int i = way.get(0);
            int last = way.get(way.size() - 1);
            if (way.size() > 1 && better(way, best[i][last])) {
                best[i][last] = new ArrayList<>(way);
            }
            for (int next = 0; next < w.n; next++) {
                if (!way.contains(next) && linked(last, next)) {
                    way.add(next);
                    tryAll(way);
                    way.remove(way.size() - 1);
                }
            }
        }

        boolean linked(int i, int j) {
            return i != j && !w.out[i] && !w.out[j] && over[i][j] > over[j][i];
        }

        /** Above 0, if the LINK {a, b} is stronger than {c, d}; null is none. */
        int compare(int[] p, int[] q) {
            if (p == null || q == null) {
                return (p == null ? 0 : 1) - (q == null ? 0 : 1);
            }
            long a = over[p[0]][p[1]];
            long b = over[p[1]][p[0]];
            long c = over[q[0]][q[1]];
            long d = over[q[1]][q[0]];
            switch (w.measure) {
                case 0:
                    return Long.compare(a, c);
                case 1:
                    return Long.compare(a - b, c - d);
                case 2:
                    if (b == 0 && d == 0) {
                        return Long.compare(a, c);
                    }
                    return Long.compare(a * d, c * b);
                default:
                    return Long.compare(d, b);
            }
        }

        int[] weakest(List<Integer> way) {
            if (way == null) {
                return null;
            }
            int[] weakest = null;
            for (int k = 0; k + 1 < way.size(); k++) {
                int[] link = {way.get(k), way.get(k + 1)};
                if (weakest == null || compare(link, weakest) < 0) {
                    weakest = link;
                }
            }
            return weakest;
        }

        private boolean better(List<Integer> way, List<Integer> than) {
            int by = compare(weakest(way), weakest(than));
            if (by != 0 || than == null) {
                return by > 0 || than == null;
            }
            if (way.size() != than.size()) {
                return way.size() < than.size();
            }
            for (int k = 0; k < way.size(); k++) {
                if (!way.get(k).equals(than.get(k))) {
                    return way.get(k) < than.get(k);
                }
            }
            return false;
        }

        int[] p(int i, int j) {
            return weakest(best[i][j]);
        }

        boolean beats(int i, int j) {
            return i != j && compare(p(i, j), p(j, i)) > 0;
        }

        int barrier(int i, int j) {
            int bits = 1 << i;
            for (int c = 0; c < w.n; c++) {
                if (c != i && best[i][c] != null && compare(p(i, c), p(i, j)) > 0) {
                    bits |= 1 << c;
                }
            }
            return bits;
        }

        List<Integer> ins() {
            List<Integer> ins = new ArrayList<>();
            for (int c = 0; c < w.n; c++) {
                if (!w.out[c]) {
                    ins.add(c);
                }
            }
            return ins;
        }

        List<Integer> ranks() {
            List<Integer> left = ins();
            List<Integer> ranks = new ArrayList<>();
            while (!left.isEmpty()) {
                int next = -1;
                for (int c : w.draw) {
                    if (next < 0 && left.contains(c) && left.stream().noneMatch(o -> beats(o, c))) {
                        next = c;
                    }
                }
                ranks.add(next);
                left.remove((Integer) next);
            }
            return ranks;
        }
    }

    private static int first(World w) {
        return new View(w).ranks().get(0);
    }

    private boolean such(int c) {
        return c >= 0 && c < world.n;
    }

    private boolean two(int i, int j) {
        return such(i) && such(j) && i != j;
    }

    private boolean isBallot(int b) {
        return b >= 0 && b < world.votes.size();
    }

    // ---- what is told

    int begin(int n) {
        if (n < 2 || n > 8) {
            return -2;
        }
        World fresh = new World();
        fresh.n = n;
        fresh.measure = world.measure;
        fresh.draw.clear();
        for (int c = 0; c < n; c++) {
            fresh.draw.add(c);
        }
        int was = world.n;
        world = fresh;
        return was;
    }

    int out(int c, int is) {
        if (!such(c) || is != 0 && is != 1) {
            return -1;
        }
        World then = world.copy();
        then.out[c] = is == 1;
        if (new View(then).ins().isEmpty()) {
            return -3;
        }
        int was = world.out[c] ? 1 : 0;
        world = then;
        return was;
    }

    int measure(int m) {
        if (m < 0 || m > 3) {
            return -1;
        }
        int was = world.measure;
        world.measure = m;
        return was;
    }

    int ahead(int c) {
        if (!such(c)) {
            return -1;
        }
        int had = world.draw.indexOf(c);
        world.draw.remove(had);
        world.draw.add(0, c);
        return had;
    }

    int shuffle(int seed) {
        world.draw.clear();
        for (int c = 0; c < world.n; c++) {
            world.draw.add(c);
        }
        int z = seed;
        for (int k = world.n - 1; k >= 1; k--) {
            z = z * 1103515245 + 12345;
            java.util.Collections.swap(world.draw, k, (z >>> 9) % (k + 1));
        }
        return world.draw.get(0);
    }

    int drawn(int k) {
        return k >= 0 && k < world.n ? world.draw.get(k) : -1;
    }

    int feed(int letter) {
        if (letter < 1 || letter > 127) {
            return -2;
        }
        if (tape.length() == 120) {
            return -4;
        }
        tape += (char) letter;
        return tape.length();
    }

    int clear() {
        int had = tape.length();
        tape = "";
        return had;
    }

    private static boolean isFigure(String text, int at) {
        return at < text.length() && text.charAt(at) >= '0' && text.charAt(at) <= '9';
    }

    private int[] readRanking(String text) {
        int[] places = new int[world.n];
        Arrays.fill(places, -1);
        int place = 0;
        while (true) {
            if (!isFigure(text, at)) {
                throw new Fault(at);
            }
            int c = text.charAt(at) - '0';
            if (c >= world.n || places[c] >= 0) {
                throw new Fault(at);
            }
            places[c] = place;
            at++;
            if (at < text.length() && text.charAt(at) == '>') {
                place++;
            } else if (at >= text.length() || text.charAt(at) != '=') {
                break;
            }
            at++;
        }
        for (int c = 0; c < world.n; c++) {
            places[c] = places[c] < 0 ? place + 1 : places[c];
        }
        return places;
    }

    private static int indexOf(List<Vote> votes, int[] places) {
        for (int b = 0; b < votes.size(); b++) {
            if (Arrays.equals(votes.get(b).places, places)) {
                return b;
            }
        }
        return -1;
    }

    private int readParts(String text, List<Vote> votes) {
        int parts = 0;
        at = 0;
        while (true) {
            int from = at;
            while (at - from < 7 && isFigure(text, at)) {
                at++;
            }
            if (at == from) {
                throw new Fault(at);
            }
            int count = Integer.parseInt(text.substring(from, at));
            if (count < 1 || count > 1000000) {
                throw new Fault(from);
            }
            if (at >= text.length() || text.charAt(at) != ':') {
                throw new Fault(at);
            }
            at++;
            int[] places = readRanking(text);
            int b = indexOf(votes, places);
            if (b < 0 && votes.size() == 40 || b >= 0 && votes.get(b).count + count > 1000000) {
                throw new Fault(from);
            }
            if (b < 0) {
                votes.add(new Vote(places, count));
            } else {
                votes.set(b, new Vote(places, votes.get(b).count + count));
            }
            parts++;
            if (at == text.length()) {
                return parts;
            }
            if (text.charAt(at) != ';') {
                throw new Fault(at);
            }
            at++;
        }
    }

    int ballots() {
        String text = tape;
        tape = "";
        List<Vote> votes = new ArrayList<>(world.votes);
        try {
            int parts = readParts(text, votes);
            world.votes = votes;
            return parts;
        } catch (Fault f) {
            return -100 - f.at;
        }
    }

    private int[] rankingOnTape() {
        String text = tape;
        tape = "";
        at = 0;
        int[] places = readRanking(text);
        if (at < text.length()) {
            throw new Fault(at);
        }
        return places;
    }

    int remove(int b, int c) {
        if (!isBallot(b)) {
            return -1;
        }
        Vote v = world.votes.get(b);
        if (c < 1 || c > v.count) {
            return -2;
        }
        if (c == v.count) {
            world.votes.remove(b);
            return 0;
        }
        world.votes.set(b, new Vote(v.places, v.count - c));
        return (int) (v.count - c);
    }

    int ballot(int b, int what) {
        if (!isBallot(b)) {
            return -1;
        }
        Vote v = world.votes.get(b);
        if (what == 0) {
            return (int) v.count;
        }
        if (what == 1) {
            return (int) Arrays.stream(v.places).distinct().count();
        }
        return what >= 10 && what < 10 + world.n ? v.places[what - 10] : -1;
    }

    int find() {
        try {
            int b = indexOf(world.votes, rankingOnTape());
            return b < 0 ? -5 : b;
        } catch (Fault f) {
            return -100 - f.at;
        }
    }

    int spell(int b) {
        if (!isBallot(b)) {
            return -1;
        }
        int[] places = world.votes.get(b).places;
        List<String> parts = new ArrayList<>();
        for (int p = 0; p <= Arrays.stream(places).max().getAsInt(); p++) {
            List<String> same = new ArrayList<>();
            for (int c = 0; c < world.n; c++) {
                if (places[c] == p) {
                    same.add("" + c);
                }
            }
            parts.add(String.join("=", same));
        }
        if (parts.size() >= 2) {
            parts.remove(parts.size() - 1);
        }
        paper = String.join(">", parts);
        return paper.length();
    }

    int paper(int i) {
        return i >= 0 && i < paper.length() ? paper.charAt(i) : -1;
    }

    // ---- pairs, ways

    long pair(int i, int j) {
        return two(i, j) ? world.over(i, j) : NO;
    }

    int link(int i, int j) {
        return two(i, j) ? world.linked(i, j) ? 1 : 0 : -1;
    }

    long strength(int i, int j, int part) {
        if (!two(i, j) || part != 0 && part != 1) {
            return NO;
        }
        View view = new View(world);
        int[] p = view.p(i, j);
        if (p == null) {
            return NO;
        }
        long a = view.over[p[0]][p[1]];
        long b = view.over[p[1]][p[0]];
        if (world.measure == 2) {
            long common = b == 0 ? 1 : java.math.BigInteger.valueOf(a).gcd(java.math.BigInteger.valueOf(b)).longValue();
            return (part == 0 ? a : b) / common;
        }
        if (part == 1) {
            return 1;
        }
        return world.measure == 0 ? a : world.measure == 1 ? a - b : b;
    }

    int way(int i, int j, int k) {
        if (!two(i, j) || k < -1) {
            return -1;
        }
        if (world.out[i] || world.out[j]) {
            return -3;
        }
        List<Integer> way = new View(world).best[i][j];
        if (way == null) {
            return -5;
        }
        return k == -1 ? way.size() : k < way.size() ? way.get(k) : -1;
    }

    int barrier(int i, int j) {
        if (!two(i, j)) {
            return -1;
        }
        return world.out[i] || world.out[j] ? -3 : new View(world).barrier(i, j);
    }

    int beats(int i, int j) {
        if (!two(i, j)) {
            return -1;
        }
        return world.out[i] || world.out[j] ? -3 : new View(world).beats(i, j) ? 1 : 0;
    }

    int winners() {
        View view = new View(world);
        int bits = 0;
        for (int c : view.ins()) {
            if (view.ins().stream().noneMatch(o -> view.beats(o, c))) {
                bits |= 1 << c;
            }
        }
        return bits;
    }

    int ranked(int k) {
        List<Integer> ranks = new View(world).ranks();
        return k >= 0 && k < ranks.size() ? ranks.get(k) : -1;
    }

    int rank(int c) {
        if (!such(c)) {
            return -1;
        }
        return world.out[c] ? -3 : new View(world).ranks().indexOf(c);
    }

    private int ins() {
        int bits = 0;
        for (int c = 0; c < world.n; c++) {
            bits |= world.out[c] ? 0 : 1 << c;
        }
        return bits;
    }

    int smith() {
        int least = ins();
        for (int set = 1; set < 256; set++) {
            if ((set & ~ins()) == 0 && Integer.bitCount(set) < Integer.bitCount(least) && tops(set)) {
                least = set;
            }
        }
        return least;
    }

    private boolean tops(int set) {
        for (int a = 0; a < world.n; a++) {
            for (int b = 0; b < world.n; b++) {
                boolean crosses = (set >> a & 1) == 1 && (set >> b & 1) == 0 && !world.out[b];
                if (crosses && !world.linked(a, b)) {
                    return false;
                }
            }
        }
        return true;
    }

    int clones(int k) {
        List<Integer> all = new ArrayList<>();
        for (int set = 1; set < 256; set++) {
            if ((set & ~ins()) == 0 && set != ins() && Integer.bitCount(set) >= 2 && areClones(set)) {
                all.add(set);
            }
        }
        return k == -1 ? all.size() : k >= 0 && k < all.size() ? all.get(k) : -1;
    }

    private boolean areClones(int set) {
        for (Vote v : world.votes) {
            for (int other = 0; other < world.n; other++) {
                if ((set >> other & 1) == 1 || world.out[other]) {
                    continue;
                }
                int before = 0;
                int behind = 0;
                for (int c = 0; c < world.n; c++) {
                    if ((set >> c & 1) == 1) {
                        before += v.places[other] < v.places[c] ? 1 : 0;
                        behind += v.places[other] > v.places[c] ? 1 : 0;
                    }
                }
                if (before != Integer.bitCount(set) && behind != Integer.bitCount(set)) {
                    return false;
                }
            }
        }
        return true;
    }

    long sum(int c, int what) {
        if (!such(c) || what < 0 || what > 1 || world.out[c]) {
            return NO;
        }
        long sum = 0;
        long leads = 0;
        for (Vote v : world.votes) {
            boolean leading = true;
            for (int o = 0; o < world.n; o++) {
                if (o != c && !world.out[o]) {
                    sum += v.places[o] > v.places[c] ? v.count : 0;
                    leading &= v.places[o] > v.places[c];
                }
            }
            leads += leading ? v.count : 0;
        }
        return what == 0 ? sum : leads;
    }

    // ---- in thought

    int without(int c) {
        if (!such(c)) {
            return -1;
        }
        World then = world.copy();
        then.out[c] = true;
        return new View(then).ins().isEmpty() ? -3 : first(then);
    }

    private int firstWith(int[] places, long count) {
        World then = world.copy();
        then.votes.add(new Vote(places, count));
        return first(then);
    }

    int would(int c) {
        if (c < 1 || c > 1000000) {
            return -2;
        }
        try {
            return firstWith(rankingOnTape(), c);
        } catch (Fault f) {
            return -100 - f.at;
        }
    }

    int needs(int candidate) {
        if (!such(candidate)) {
            return -1;
        }
        if (world.out[candidate]) {
            return -3;
        }
        try {
            int[] places = rankingOnTape();
            for (int c = 1; c <= 500; c++) {
                if (firstWith(places, c) == candidate) {
                    return c;
                }
            }
            return -5;
        } catch (Fault f) {
            return -100 - f.at;
        }
    }

    private int firstLess(int b, int c) {
        World then = world.copy();
        Vote v = then.votes.get(b);
        then.votes.set(b, new Vote(v.places, v.count - c));
        return first(then);
    }

    long turners() {
        long bits = 0;
        for (int b = 0; b < world.votes.size(); b++) {
            bits |= firstLess(b, 1) != first(world) ? 1L << b : 0;
        }
        return bits;
    }

    int agree() {
        int bits = 0;
        for (int m = 0; m < 4; m++) {
            World then = world.copy();
            then.measure = m;
            bits |= first(then) == first(world) ? 1 << m : 0;
        }
        return bits;
    }

    int flips(int b) {
        if (!isBallot(b)) {
            return -1;
        }
        int first = first(world);
        for (int c = 1; c <= 500 && c <= world.votes.get(b).count; c++) {
            if (firstLess(b, c) != first) {
                return c;
            }
        }
        return -5;
    }

    // ---- proofs, rows, the image

    private boolean isList(int list) {
        return list >= 0 && list < 4;
    }

    int prove(int list, int p, int i, int j) {
        if (!such(i) || !such(j) || !isList(list)) {
            return -1;
        }
        View view = new View(world);
        if (world.out[i] || world.out[j] || !view.beats(i, j)) {
            return -3;
        }
        if (lists[list] == null) {
            return -11;
        }
        List<Long> row = new ArrayList<>();
        row.add((long) view.best[i][j].size());
        view.best[i][j].forEach(c -> row.add((long) c));
        row.add((long) view.barrier(j, i));
        boolean all = true;
        for (int k = 0; k < row.size(); k++) {
            long place = (long) p + k;
            if (p < 0 || place >= lists[list].length) {
                all = false;
            } else {
                lists[list][(int) place] = row.get(k);
            }
        }
        return all ? row.size() : -13;
    }

    int proves(int list, int p, int i, int j) {
        if (!such(i) || !such(j) || !isList(list)) {
            return -1;
        }
        if (world.out[i] || world.out[j]) {
            return -3;
        }
        if (lists[list] == null) {
            return -11;
        }
        long[] row = lists[list];
        if (p < 0 || p >= row.length || row[p] < 2 || row[p] > 8 || p + row[p] + 1 >= row.length) {
            return 0;
        }
        List<Integer> way = new ArrayList<>();
        for (int k = 1; k <= row[p]; k++) {
            long c = row[p + k];
            if (c < 0 || c >= world.n || way.contains((int) c)) {
                return 0;
            }
            way.add((int) c);
        }
        View view = new View(world);
        for (int k = 0; k + 1 < way.size(); k++) {
            if (!view.linked(way.get(k), way.get(k + 1))) {
                return 0;
            }
        }
        long set = row[(int) (p + row[p] + 1)];
        if (way.get(0) != i || way.get(way.size() - 1) != j || set < 0 || set >= 1L << world.n
                || (set >> j & 1) == 0 || (set >> i & 1) == 1) {
            return 0;
        }
        for (int a = 0; a < world.n; a++) {
            for (int b = 0; b < world.n; b++) {
                if ((set >> a & 1) == 1 && (set >> b & 1) == 0 && view.linked(a, b)
                        && view.compare(new int[] {a, b}, view.weakest(way)) >= 0) {
                    return 0;
                }
            }
        }
        return 1;
    }

    int told(int what) {
        View view = new View(world);
        int links = 0;
        int beating = 0;
        for (int i = 0; i < world.n; i++) {
            for (int j = 0; j < world.n; j++) {
                links += view.linked(i, j) ? 1 : 0;
                beating += view.beats(i, j) ? 1 : 0;
            }
        }
        int[] all = {world.n, world.votes.size(), (int) world.votes.stream().mapToLong(v -> v.count).sum(),
            (1 << world.n) - 1 - ins(), world.measure, tape.length(), paper.length(), links, beating};
        return what >= 0 && what < all.length ? all[what] : -1;
    }

    int list(int list, int n) {
        if (!isList(list)) {
            return -1;
        }
        if (n > 40) {
            return -2;
        }
        if (n < 0) {
            return -14;
        }
        lists[list] = new long[n];
        return 1;
    }

    int set(int list, int i, long v) {
        if (!isList(list)) {
            return -1;
        }
        if (lists[list] == null) {
            return -11;
        }
        if (i < 0 || i >= lists[list].length) {
            return -13;
        }
        lists[list][i] = v;
        return 1;
    }

    long get(int list, int i) {
        boolean there = isList(list) && lists[list] != null && i >= 0 && i < lists[list].length;
        return there ? lists[list][i] : NO;
    }

    int image() {
        image = world.copy();
        return world.votes.size();
    }

    int undo() {
        if (image == null) {
            return -3;
        }
        world = image.copy();
        return world.votes.size();
    }
}
