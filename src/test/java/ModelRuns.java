import java.math.BigInteger;
import java.util.ArrayDeque;
import java.util.ArrayList;
import java.util.Arrays;
import java.util.Deque;
import java.util.List;
import java.util.Random;
import java.util.TreeSet;

/**
 * Random runs of calls, each answer beside that of a second model of the document, which was written for plainness:
 * fractions by BigInteger, pairings by trying every way to put each party. The seeds are fixed.
 */
public final class ModelRuns {
    private static final int RUNS = 1500;
    /** What an object answers behind so many calls is free. */
    private static final int MOST_CALLS = 512;
    private static final int CALLS_OF_WHOLE_STATE = 16 * 7;
    private static final int CALLS_OF_LONGEST_STEP = 30;

    static final class Member {
        int kind;
        long[] table = {142857, 142857, 142857, 142858, 142857, 142857, 142857};
        Deque<Long> surprises = new ArrayDeque<>();

        long mean() {
            long sum = 0;
            for (int level = 0; level < 7; level++) {
                sum += level * table[level];
            }
            return sum;
        }

        long sum() {
            return surprises.stream().mapToLong(Long::longValue).sum();
        }
    }

    record Party(TreeSet<Integer> members, long since) { }

    record Found(long uneven, long first, long second) { }

    static final class Game {
        TreeSet<Integer> first = new TreeSet<>();
        TreeSet<Integer> second = new TreeSet<>();
        TreeSet<Integer> dropped = new TreeSet<>();
        long made;

        boolean plays(int p) {
            return (first.contains(p) || second.contains(p)) && !dropped.contains(p);
        }
    }

    /** The document once more. */
    static final class Model {
        static final long LOW = -1000000000L;
        final List<Member> members = new ArrayList<>();
        List<Party> queue = new ArrayList<>();
        final Game[] games = new Game[5];
        final List<Integer> told = new ArrayList<>();
        final long[] found = new long[6];
        long tick;
        long ended;
        int t = 2;
        long base = 300000;
        long step = 100000;
        long top = 3000000;
        long limit = 1500000;

        long finding(int k) {
            found[k]++;
            return LOW - k;
        }

        boolean is(int p) {
            return 0 <= p && p < members.size();
        }

        long going() {
            return Arrays.stream(games).filter(g -> g != null).count();
        }

        static long bits(Iterable<Integer> team) {
            long sum = 0;
            for (int p : team) {
                sum += 1L << p;
            }
            return sum;
        }

        // chances

        static long chanceAt(int level, List<long[]> team) {
            BigInteger sum = BigInteger.ZERO;
            for (long[] table : team) {
                for (int m = 0; m < 7; m++) {
                    sum = sum.add(BigInteger.valueOf(table[m]).multiply(BigInteger.valueOf(500 + 70 * (level - m))));
                }
            }
            return sum.divide(BigInteger.valueOf(1000L * team.size())).longValueExact();
        }

        static long chance(long[] own, List<long[]> team) {
            BigInteger sum = BigInteger.ZERO;
            for (int level = 0; level < 7; level++) {
                sum = sum.add(BigInteger.valueOf(own[level]).multiply(BigInteger.valueOf(chanceAt(level, team))));
            }
            return sum.divide(BigInteger.valueOf(1000000)).longValueExact();
        }

        static long[] moved(long[] own, List<long[]> team, int result) {
            BigInteger[] products = new BigInteger[7];
            BigInteger all = BigInteger.ZERO;
            for (int level = 0; level < 7; level++) {
                long c = chanceAt(level, team);
                long f = result == 2 ? c : result == 0 ? 1000000 - c : c * (1000000 - c) / 1000000;
                products[level] = BigInteger.valueOf(own[level]).multiply(BigInteger.valueOf(f));
                all = all.add(products[level]);
            }
            long[] table = new long[7];
            for (int level = 0; level < 7; level++) {
                table[level] = products[level].multiply(BigInteger.valueOf(1000000)).divide(all).longValueExact();
            }
            long greatest = Arrays.stream(table).max().getAsLong();
            for (int level = 0; level < 7; level++) {
                if (table[level] == greatest) {
                    table[level] += 1000000 - Arrays.stream(table).sum();
                    break;
                }
            }
            return table;
        }

        List<long[]> movers(Iterable<Integer> team) {
            List<long[]> tables = new ArrayList<>();
            for (int p : team) {
                if (members.get(p).kind != 2) {
                    tables.add(members.get(p).table.clone());
                }
            }
            return tables;
        }

        /** The new table of one, its surprise being kept; null if nobody moves it. */
        long[] result(int p, Iterable<Integer> rivals, int result) {
            List<long[]> others = movers(rivals);
            if (others.isEmpty()) {
                return null;
            }
            Member one = members.get(p);
            one.surprises.addLast(500000L * result - chance(one.table, others));
            if (one.surprises.size() > 8) {
                one.surprises.removeFirst();
            }
            long[] table = moved(one.table, others, result);
            return one.kind == 1 ? moved(table, others, result) : table;
        }

        long endGame(int m, int result) {
            Game game = games[m];
            long[][] tables = new long[16][];
            for (int p = 0; p < members.size(); p++) {
                if (game.plays(p)) {
                    boolean first = game.first.contains(p);
                    tables[p] = result(p, first ? game.second : game.first, first ? result : 2 - result);
                }
            }
            long count = 0;
            for (int p = 0; p < 16; p++) {
                if (tables[p] != null) {
                    members.get(p).table = tables[p];
                    count++;
                }
            }
            games[m] = null;
            ended++;
            return count;
        }

        // pairings

        long bound(Party party) {
            return Math.min(top, base + step * (tick - party.since()));
        }

        Found best(List<Party> row, int place) {
            return best(row, place, 0, 0, 0, null);
        }

        /** Tries each party from one place on in the first team, in the second one, in none. */
        Found best(List<Party> row, int place, int at, long first, long second, Found sofar) {
            if (at == row.size()) {
                return better(row, place, first, second, sofar);
            }
            Found best = sofar;
            if (at != place) {
                best = best(row, place, at + 1, first, second, best);
                if (players(row, second).size() < t) {
                    best = best(row, place, at + 1, first, second | 1L << at, best);
                }
            }
            if (players(row, first).size() < t) {
                best = best(row, place, at + 1, first | 1L << at, second, best);
            }
            return best;
        }

        Found better(List<Party> row, int place, long first, long second, Found sofar) {
            TreeSet<Integer> one = players(row, first);
            TreeSet<Integer> other = players(row, second);
            if (one.size() != t || other.size() != t) {
                return sofar;
            }
            long difference = 0;
            for (int p : one) {
                difference += members.get(p).mean();
            }
            for (int p : other) {
                difference -= members.get(p).mean();
            }
            Found here = new Found(Math.abs(difference), first, second);
            return sofar == null || order(here, sofar) < 0 ? here : sofar;
        }

        static int order(Found a, Found b) {
            int byUneven = Long.compare(a.uneven(), b.uneven());
            int byFirst = Long.compare(a.first(), b.first());
            return byUneven != 0 ? byUneven : byFirst != 0 ? byFirst : Long.compare(a.second(), b.second());
        }

        static TreeSet<Integer> players(List<Party> row, long places) {
            TreeSet<Integer> all = new TreeSet<>();
            for (int place = 0; place < row.size(); place++) {
                if ((places >> place & 1) == 1) {
                    all.addAll(row.get(place).members());
                }
            }
            return all;
        }

        Found thePairing(List<Party> row, int place) {
            Found best = best(row, place);
            return best != null && best.uneven() <= bound(row.get(place)) ? best : null;
        }

        /** The games that a tick makes; those parties are taken out of the row. */
        List<Game> made(List<Party> row) {
            List<Game> made = new ArrayList<>();
            boolean again = true;
            while (again) {
                again = false;
                for (int place = 0; place < row.size() && going() + made.size() < 5; place++) {
                    Found pairing = thePairing(row, place);
                    if (pairing != null) {
                        Game game = new Game();
                        game.first = players(row, pairing.first());
                        game.second = players(row, pairing.second());
                        game.made = tick;
                        made.add(game);
                        long gone = pairing.first() | pairing.second();
                        for (int i = row.size() - 1; i >= 0; i--) {
                            if ((gone >> i & 1) == 1) {
                                row.remove(i);
                            }
                        }
                        again = true;
                        break;
                    }
                }
            }
            return made;
        }

        int place(int p) {
            for (int i = 0; i < queue.size(); i++) {
                if (queue.get(i).members().contains(p)) {
                    return i;
                }
            }
            return -1;
        }

        boolean busy(int p) {
            for (Game game : games) {
                if (game != null && game.plays(p)) {
                    return true;
                }
            }
            return place(p) >= 0;
        }

        // the calls

        long player(int kind) {
            if (kind < 0 || kind > 2) return finding(1);
            if (members.size() == 16) return finding(4);
            Member one = new Member();
            one.kind = kind;
            members.add(one);
            return members.size() - 1;
        }

        long become(int p, int kind) {
            if (!is(p) || kind < 0 || kind > 2) return finding(1);
            long was = members.get(p).kind;
            members.get(p).kind = kind;
            return was;
        }

        long as(int p, int kind) {
            if (!is(p) || kind < 0 || kind > 2) return finding(1);
            if (kind == 1 && members.get(p).kind != 1) return finding(5);
            if (kind == 2 && members.get(p).kind != 2) return finding(5);
            return members.get(p).mean();
        }

        long share(int p, int level) {
            return !is(p) || level < 0 || level > 6 ? finding(1) : members.get(p).table[level];
        }

        long shift(int p, int from, int to, int v) {
            if (!is(p) || from < 0 || from > 6 || to < 0 || to > 6) return finding(1);
            long[] table = members.get(p).table;
            if (v < 0 || v > table[from]) return finding(1);
            table[from] -= v;
            table[to] += v;
            return table[to];
        }

        long mean(int p) {
            return is(p) ? members.get(p).mean() : finding(1);
        }

        long chance(int p, int q) {
            if (!is(p) || !is(q) || p == q) return finding(1);
            return chance(members.get(p).table, List.of(members.get(q).table));
        }

        long season() {
            if (going() > 0) return finding(3);
            for (Member one : members) {
                for (int level = 0; level < 7; level++) {
                    one.table[level] = (one.table[level] + (level == 3 ? 142858 : 142857)) / 2;
                }
                one.table[3] += 1000000 - Arrays.stream(one.table).sum();
            }
            return members.size();
        }

        long size(int size) {
            if (size < 1 || size > 3) return finding(1);
            if (going() > 0 || !queue.isEmpty()) return finding(3);
            long was = t;
            t = size;
            return was;
        }

        long bounds(int b, int s, int u) {
            for (int v : new int[] {b, s, u}) {
                if (v < 0 || v > 10000000) return finding(1);
            }
            base = b;
            step = s;
            top = u;
            return 1;
        }

        long wait(int a, int b, int c) {
            List<Integer> all = new ArrayList<>(List.of(a));
            if (b == -1 && c != -1) return finding(1);
            if (b != -1) all.add(b);
            if (c != -1) all.add(c);
            for (int p : all) {
                if (!is(p)) return finding(1);
            }
            TreeSet<Integer> party = new TreeSet<>(all);
            if (party.size() != all.size()) return finding(1);
            if (party.size() > t) return finding(5);
            for (int p : party) {
                if (busy(p)) return finding(3);
            }
            if (queue.size() == 10) return finding(4);
            queue.add(new Party(party, tick));
            return queue.size();
        }

        long leave(int p) {
            if (!is(p)) return finding(1);
            if (place(p) < 0) return finding(2);
            queue.remove(place(p));
            return queue.size();
        }

        long waited(int p, boolean bound) {
            if (!is(p)) return finding(1);
            if (place(p) < 0) return finding(2);
            Party party = queue.get(place(p));
            return bound ? bound(party) : tick - party.since();
        }

        long pairing(int p, int what) {
            if (!is(p) || what < 0 || what > 2) return finding(1);
            Found pairing = place(p) < 0 ? null : thePairing(queue, place(p));
            if (pairing == null) return finding(2);
            if (what == 0) return pairing.uneven();
            return bits(players(queue, what == 1 ? pairing.first() : pairing.second()));
        }

        long tick() {
            List<Game> made = made(queue);
            for (Game game : made) {
                int m = 0;
                while (games[m] != null) {
                    m++;
                }
                games[m] = game;
            }
            tick++;
            return made.size();
        }

        long match(int m, int what) {
            if (m < 0 || m > 4 || what < 0 || what > 4) return finding(1);
            Game game = games[m];
            if (game == null) return finding(2);
            if (what == 0) return bits(game.first);
            if (what == 1) return bits(game.second);
            if (what == 2) return bits(game.dropped);
            if (what == 3) return game.made;
            List<long[]> others = new ArrayList<>();
            game.second.forEach(p -> others.add(members.get(p).table));
            long sum = 0;
            for (int p : game.first) {
                sum += chance(members.get(p).table, others);
            }
            return sum / game.first.size();
        }

        long end(int m, int result) {
            if (m < 0 || m > 4 || result < 0 || result > 2) return finding(1);
            return games[m] == null ? finding(2) : endGame(m, result);
        }

        long drop(int p) {
            if (!is(p)) return finding(1);
            for (int m = 0; m < 5; m++) {
                Game game = games[m];
                if (game != null && game.plays(p)) {
                    long[] table = result(p, game.first.contains(p) ? game.second : game.first, 0);
                    members.get(p).table = table == null ? members.get(p).table : table;
                    game.dropped.add(p);
                    if (game.dropped.containsAll(game.first)) {
                        endGame(m, 0);
                        return 1;
                    }
                    if (game.dropped.containsAll(game.second)) {
                        endGame(m, 2);
                        return 1;
                    }
                    return 0;
                }
            }
            return finding(2);
        }

        long surprise(int p, int i) {
            if (!is(p)) return finding(1);
            List<Long> kept = new ArrayList<>(members.get(p).surprises);
            if (kept.isEmpty() || i < -1 || i >= kept.size()) return finding(2);
            return i < 0 ? members.get(p).sum() : kept.get(i);
        }

        long sinking() {
            List<Integer> sinking = new ArrayList<>();
            for (int p = 0; p < members.size(); p++) {
                if (members.get(p).surprises.size() >= 5 && members.get(p).sum() < -limit) {
                    sinking.add(p);
                }
            }
            return bits(sinking);
        }

        long limit(int v) {
            if (v < 0 || v > 8000000) return finding(1);
            long was = limit;
            limit = v;
            return was;
        }

        long tell(int v) {
            if (told.size() == 20) return finding(4);
            told.add(v);
            return told.size();
        }

        long check() {
            List<Game> made = made(new ArrayList<>(queue));
            List<Integer> given = new ArrayList<>(told);
            told.clear();
            for (int i = 0; i < made.size(); i++) {
                if (given.size() < 2 * i + 2 || given.get(2 * i) != bits(made.get(i).first)
                        || given.get(2 * i + 1) != bits(made.get(i).second)) {
                    return 1 + i;
                }
            }
            return given.size() > 2 * made.size() ? 99 : 0;
        }

        long count(int what) {
            switch (what) {
                case 0: return members.size();
                case 1: return tick;
                case 2: return queue.size();
                case 3: return going();
                case 4: return ended;
                case 5: return told.size();
                case 6: return t;
                default: return finding(1);
            }
        }

        long found(int k) {
            return k < 1 || k > 5 ? finding(1) : found[k];
        }
    }

    // the runs

    private static int wrong = 0;
    private static final long[] SEEN = new long[8];

    private final FairQueue x = new FairQueue();
    private final Model y = new Model();
    private final StringBuilder story = new StringBuilder();
    private final Random random;
    /** How often, of 100, an argument is a wrong one. */
    private final int wildness;
    private final boolean rounds;
    private boolean same = true;
    private int calls = 0;

    private ModelRuns(long seed) {
        random = new Random(seed);
        wildness = seed % 4 == 0 ? 25 : 2;
        rounds = seed % 3 == 0;
    }

    private void due(String call, long got, long want) {
        calls++;
        story.append(call).append(" -> ").append(got).append('\n');
        if (got != want) {
            same = false;
            wrong++;
            System.out.println(story + "due is " + want);
        }
    }

    private int one(int least, int most) {
        if (random.nextInt(100) < wildness) {
            int[] wild = {least - 1, most + 1, -1, -2, Integer.MIN_VALUE, Integer.MAX_VALUE, 16, 7, random.nextInt()};
            return wild[random.nextInt(wild.length)];
        }
        return least + random.nextInt(most - least + 1);
    }

    private int somebody() {
        return one(0, Math.max(0, y.members.size() - 1));
    }

    private int idle() {
        for (int i = 0; i < 4; i++) {
            int p = somebody();
            if (!y.busy(p)) {
                return p;
            }
        }
        return somebody();
    }

    private void players() {
        int p = somebody();
        int k = one(0, 2);
        int l = one(0, 6);
        int to = one(0, 6);
        switch (random.nextInt(9)) {
            case 0: due("player " + k, x.player(k), y.player(k)); break;
            case 1: due("become " + p + " " + k, x.become(p, k), y.become(p, k)); break;
            case 2: due("as " + p + " " + k, x.as(p, k), y.as(p, k)); break;
            case 3: due("share " + p + " " + l, x.share(p, l), y.share(p, l)); break;
            case 4:
            case 5:
                long has = y.is(p) && l >= 0 && l < 7 ? y.members.get(p).table[l] : 10;
                int v = random.nextInt(3) == 0 ? (int) has : one(0, (int) has);
                due("shift " + p + " " + l + " " + to + " " + v, x.shift(p, l, to, v), y.shift(p, l, to, v));
                break;
            case 6: due("mean " + p, x.mean(p), y.mean(p)); break;
            case 7:
                int q = somebody();
                due("chance " + p + " " + q, x.chance(p, q), y.chance(p, q));
                break;
            default:
                if (random.nextInt(6) == 0) {
                    due("season", x.season(), y.season());
                }
        }
    }

    private void queue() {
        int p = somebody();
        switch (random.nextInt(12)) {
            case 0:
                int t = one(1, 3);
                due("size " + t, x.size(t), y.size(t));
                break;
            case 1:
                int most = random.nextBoolean() ? 10000000 : 400000;
                int b = one(0, most);
                int s = one(0, most);
                int u = one(0, 10000000);
                due("bounds " + b + " " + s + " " + u, x.bounds(b, s, u), y.bounds(b, s, u));
                break;
            case 2:
                due("leave " + p, x.leave(p), y.leave(p));
                break;
            case 3:
                boolean bound = random.nextBoolean();
                due("waited " + p + " " + bound, x.waited(p, bound), y.waited(p, bound));
                break;
            case 4:
            case 5:
                int what = one(0, 2);
                due("pairing " + p + " " + what, x.pairing(p, what), y.pairing(p, what));
                break;
            case 6:
            case 7:
                due("tick", x.tick(), y.tick());
                break;
            default:
                int a = idle();
                int c = random.nextInt(3) == 0 ? idle() : -1;
                int d = random.nextInt(4) == 0 ? idle() : -1;
                due("wait " + a + " " + c + " " + d, x.wait(a, c, d), y.wait(a, c, d));
        }
    }

    private void matches() {
        int m = one(0, 4);
        int p = somebody();
        switch (random.nextInt(8)) {
            case 0:
            case 1:
                int what = one(0, 4);
                due("match " + m + " " + what, x.match(m, what), y.match(m, what));
                break;
            case 2:
                int result = one(0, 2);
                due("end " + m + " " + result, x.end(m, result), y.end(m, result));
                break;
            case 3:
            case 4:
                due("drop " + p, x.drop(p), y.drop(p));
                break;
            case 5:
                int i = one(-1, 7);
                due("surprise " + p + " " + i, x.surprise(p, i), y.surprise(p, i));
                break;
            case 6:
                due("sinking", x.sinking(), y.sinking());
                break;
            default:
                int v = one(0, random.nextBoolean() ? 8000000 : 500000);
                due("limit " + v, x.limit(v), y.limit(v));
        }
    }

    private void told() {
        switch (random.nextInt(6)) {
            case 0:
                int numbers = random.nextInt(20) == 0 ? 22 : 1;
                for (int i = 0; i < numbers; i++) {
                    int v = one(0, 65535);
                    due("tell " + v, x.tell(v), y.tell(v));
                }
                break;
            case 1:
                tellWhatATickMakes();
                break;
            case 2:
                due("check", x.check(), y.check());
                break;
            case 3:
                int k = one(1, 5);
                due("found " + k, x.found(k), y.found(k));
                break;
            default:
                int what = one(0, 6);
                due("count " + what, x.count(what), y.count(what));
        }
    }

    /** Numbers told at random are never right, so the right ones are told, at times spoilt a little. */
    private void tellWhatATickMakes() {
        for (Game game : y.made(new ArrayList<>(y.queue))) {
            int first = (int) Model.bits(game.first);
            int second = (int) Model.bits(game.second) + (random.nextInt(8) == 0 ? 1 : 0);
            due("tell " + first, x.tell(first), y.tell(first));
            if (random.nextInt(12) != 0) {
                due("tell " + second, x.tell(second), y.tell(second));
            }
        }
        due("check", x.check(), y.check());
    }

    /** Random calls alone end few matches, so at times all that are idle wait, play and end or drop. */
    private void round() {
        for (int p = 0; p < y.members.size(); p++) {
            if (!y.busy(p)) {
                due("wait " + p, x.wait(p, -1, -1), y.wait(p, -1, -1));
            }
        }
        due("tick", x.tick(), y.tick());
        for (int m = 0; m < 5; m++) {
            int p = somebody();
            if (random.nextInt(4) == 0) {
                due("drop " + p, x.drop(p), y.drop(p));
            }
            if (random.nextInt(3) != 0) {
                int result = random.nextInt(3);
                due("end " + m + " " + result, x.end(m, result), y.end(m, result));
            }
        }
    }

    private void see() {
        SEEN[0] += y.going() == 5 ? 1 : 0;
        SEEN[1] += y.queue.size() == 10 ? 1 : 0;
        SEEN[2] += y.sinking() != 0 ? 1 : 0;
        SEEN[3] += y.told.size() == 20 ? 1 : 0;
        for (Member one : y.members) {
            SEEN[4] += one.surprises.size() == 8 ? 1 : 0;
        }
        for (Game game : y.games) {
            if (game != null) {
                SEEN[5] += game.first.size() == 3 ? 1 : 0;
                SEEN[6] += !game.dropped.isEmpty() ? 1 : 0;
                for (int p : game.dropped) {
                    SEEN[7] += y.busy(p) ? 1 : 0;
                }
            }
        }
    }

    private void wholeState() {
        for (int p = 0; p < 16; p++) {
            for (int level = 0; level < 7; level++) {
                due("share " + p + " " + level, x.share(p, level), y.share(p, level));
            }
        }
    }

    private void run() {
        int many = random.nextInt(15);
        for (int i = 0; i < many; i++) {
            int kind = random.nextInt(4) == 0 ? 1 + random.nextInt(2) : 0;
            due("player " + kind, x.player(kind), y.player(kind));
        }
        if (random.nextInt(3) != 0) {
            int t = 1 + random.nextInt(3);
            due("size " + t, x.size(t), y.size(t));
        }
        int enough = MOST_CALLS - CALLS_OF_WHOLE_STATE - CALLS_OF_LONGEST_STEP;
        for (int i = 0; calls < enough && same; i++) {
            int part = random.nextInt(20);
            if (rounds && i % 20 == 0) {
                round();
            } else if (part < 3) {
                players();
            } else if (part < 13) {
                queue();
            } else if (part < 17) {
                matches();
            } else {
                told();
            }
            see();
        }
        if (same) {
            wholeState();
        }
    }

    public static void main(String[] args) {
        int runs = args.length > 0 ? Integer.parseInt(args[0]) : RUNS;
        for (int seed = 0; seed < runs && wrong == 0; seed++) {
            new ModelRuns(seed).run();
        }
        for (int i = 0; i < SEEN.length && wrong == 0; i++) {
            if (SEEN[i] == 0) {
                wrong++;
                System.out.println("the runs never came to state " + i + ", so they show nothing of it");
            }
        }
        System.out.println(wrong == 0 ? "all answers are the model's, seen " + Arrays.toString(SEEN) : "not as the model answers");
        if (wrong != 0) {
            System.exit(1);
        }
    }
}
