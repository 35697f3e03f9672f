/** A maker of matches. The document DOC.md says, as numbered promises, what each call does. */
public final class FairQueue {
    private static final long LOW = -1000000000L;
    private static final int BEYOND = 1;
    private static final int NONE = 2;
    private static final int STATE = 3;
    private static final int FULL = 4;
    private static final int KIND = 5;

    private static final int ANY_PLAYER = 0;
    private static final int NEW = 1;
    private static final int DOUBTED = 2;

    private static final int LOST = 0;
    private static final int DRAWN = 1;
    private static final int WON = 2;

    private static final int LEVELS = 7;
    private static final int MIDDLE_LEVEL = 3;
    private static final long MILLION = 1000000L;
    private static final long EVEN_SHARE = 142857L;
    private static final long EVEN_ODDS = 500L;
    private static final long ODDS_A_LEVEL = 70L;
    private static final long ODDS_UNIT = 1000L;
    private static final long HALF_MILLION = 500000L;

    private static final int MOST_PLAYERS = 16;
    private static final int MOST_PARTIES = 10;
    private static final int MOST_MATCHES = 5;
    private static final int MOST_SURPRISES = 8;
    private static final int MOST_TOLD = 20;
    private static final int LARGEST_TEAM = 3;
    /** Ways to take one, two or three of ten parties: no more teams than these can be. */
    private static final int MOST_TEAMS = 175;

    private static final int SURPRISES_TO_SINK = 5;
    private static final int HIGHEST_BOUND = 10000000;
    private static final int HIGHEST_LIMIT = 8000000;
    private static final int NOBODY = -1;
    private static final long MORE_WERE_TOLD = 99L;

    private final Players players;
    private final Queue queue;
    /** A copy of the queue on which check() tries a tick. */
    private final Queue trial;
    private final Pairings pairings;
    private final Plan plan;
    private final Matches matches;
    private final Bounds bounds;
    private final long[] told;
    private final long[] findings;
    private int toldCount;
    private int teamSize;
    private long limit;
    private long tick;

    public FairQueue() {
        players = new Players();
        queue = new Queue();
        trial = new Queue();
        pairings = new Pairings();
        plan = new Plan();
        matches = new Matches();
        bounds = new Bounds();
        told = new long[MOST_TOLD];
        findings = new long[KIND + 1];
        toldCount = 0;
        teamSize = 2;
        limit = 1500000L;
        tick = 0L;
    }

    // ---- players

    public long player(int kind) {
        if (!isKind(kind)) {
            return finding(BEYOND);
        }
        int number = players.admit(kind);
        if (number < 0) {
            return finding(FULL);
        }
        return number;
    }

    public long become(int player, int kind) {
        Player one = players.at(player);
        if (one == null || !isKind(kind)) {
            return finding(BEYOND);
        }
        int before = one.kind;
        one.kind = kind;
        return before;
    }

    public long as(int player, int kind) {
        Player one = players.at(player);
        if (one == null || !isKind(kind)) {
            return finding(BEYOND);
        }
        if (kind != ANY_PLAYER && kind != one.kind) {
            return finding(KIND);
        }
        return one.ownMean();
    }

    public long share(int player, int level) {
        Player one = players.at(player);
        if (one == null || !isLevel(level)) {
            return finding(BEYOND);
        }
        return one.shares[level];
    }

    public long shift(int player, int from, int to, int v) {
        Player one = players.at(player);
        if (one == null || !isLevel(from) || !isLevel(to)) {
            return finding(BEYOND);
        }
        if (v < 0 || v > one.shares[from]) {
            return finding(BEYOND);
        }
        one.shares[from] -= v;
        one.shares[to] += v;
        return one.shares[to];
    }

    public long mean(int player) {
        Player one = players.at(player);
        if (one == null) {
            return finding(BEYOND);
        }
        return one.ownMean();
    }

    public long chance(int player, int other) {
        Player one = players.at(player);
        if (one == null || players.at(other) == null || player == other) {
            return finding(BEYOND);
        }
        return players.chanceOf(one, bitOf(other));
    }

    public long season() {
        if (matches.going() > 0) {
            return finding(STATE);
        }
        players.drawToTheMiddle();
        return players.number;
    }

    // ---- the queue

    public long size(int t) {
        if (t < 1 || t > LARGEST_TEAM) {
            return finding(BEYOND);
        }
        if (matches.going() > 0 || queue.waiting > 0) {
            return finding(STATE);
        }
        int before = teamSize;
        teamSize = t;
        return before;
    }

    public long bounds(int base, int step, int top) {
        if (!isBound(base) || !isBound(step) || !isBound(top)) {
            return finding(BEYOND);
        }
        bounds.base = base;
        bounds.step = step;
        bounds.top = top;
        return 1L;
    }

    public long wait(int a, int b, int c) {
        int party = partyOf(a, b, c);
        if (party == 0) {
            return finding(BEYOND);
        }
        if (Integer.bitCount(party) > teamSize) {
            return finding(KIND);
        }
        if ((party & (queue.everybody() | matches.everybody())) != 0) {
            return finding(STATE);
        }
        if (!queue.join(party, tick)) {
            return finding(FULL);
        }
        return queue.waiting;
    }

    public long leave(int player) {
        if (players.at(player) == null) {
            return finding(BEYOND);
        }
        int place = queue.placeOf(bitOf(player));
        if (place < 0) {
            return finding(NONE);
        }
        queue.release(1 << place);
        return queue.waiting;
    }

    public long waited(int player, boolean bound) {
        if (players.at(player) == null) {
            return finding(BEYOND);
        }
        int place = queue.placeOf(bitOf(player));
        if (place < 0) {
            return finding(NONE);
        }
        long ticks = tick - queue.sinceAt(place);
        return bound ? bounds.behind(ticks) : ticks;
    }

    public long pairing(int player, int what) {
        if (players.at(player) == null || what < 0 || what > 2) {
            return finding(BEYOND);
        }
        int place = queue.placeOf(bitOf(player));
        if (place < 0) {
            return finding(NONE);
        }
        pairings.gather(queue, players, teamSize);
        if (!hasPairing(queue, place)) {
            return finding(NONE);
        }
        if (what == 0) {
            return pairings.uneven;
        }
        return queue.playersAt(what == 1 ? pairings.first : pairings.second);
    }

    public long tick() {
        planTick(queue);
        for (int i = 0; i < plan.made; i++) {
            matches.begin(plan.firstAt(i), plan.secondAt(i), tick);
        }
        tick++;
        return plan.made;
    }

    // ---- matches

    public long match(int m, int what) {
        Match one = matches.at(m);
        if (one == null || what < 0 || what > 4) {
            return finding(BEYOND);
        }
        if (!one.goesOn()) {
            return finding(NONE);
        }
        switch (what) {
            case 0:
                return one.first;
            case 1:
                return one.second;
            case 2:
                return one.dropped;
            case 3:
                return one.made;
            default:
                return players.teamChance(one.first, one.second);
        }
    }

    public long end(int m, int result) {
        Match one = matches.at(m);
        if (one == null || result < LOST || result > WON) {
            return finding(BEYOND);
        }
        if (!one.goesOn()) {
            return finding(NONE);
        }
        return matches.finish(one, result, players);
    }

    public long drop(int player) {
        Player one = players.at(player);
        if (one == null) {
            return finding(BEYOND);
        }
        int bit = bitOf(player);
        Match left = matches.withPlayer(bit);
        if (left == null) {
            return finding(NONE);
        }
        if (players.reckon(one, left.rivalsOf(bit), LOST)) {
            one.settle();
        }
        left.dropped |= bit;
        if (!left.isDeserted()) {
            return 0L;
        }
        matches.finish(left, left.resultOfDeserted(), players);
        return 1L;
    }

    public long surprise(int player, int i) {
        Player one = players.at(player);
        if (one == null) {
            return finding(BEYOND);
        }
        if (i < -1 || i >= one.kept || one.kept == 0) {
            return finding(NONE);
        }
        return i == -1 ? one.sumOfSurprises() : one.surprises[i];
    }

    public long sinking() {
        int bits = 0;
        for (int number = 0; number < MOST_PLAYERS; number++) {
            Player one = players.at(number);
            if (one != null && one.kept >= SURPRISES_TO_SINK && one.sumOfSurprises() < -limit) {
                bits |= bitOf(number);
            }
        }
        return bits;
    }

    public long limit(int v) {
        if (v < 0 || v > HIGHEST_LIMIT) {
            return finding(BEYOND);
        }
        long before = limit;
        limit = v;
        return before;
    }

    // ---- what is told

    public long tell(int v) {
        if (toldCount < 0 || toldCount >= told.length) {
            return finding(FULL);
        }
        told[toldCount] = v;
        toldCount++;
        return toldCount;
    }

    public long check() {
        trial.copyOf(queue);
        planTick(trial);
        int given = toldCount;
        toldCount = 0;
        for (int i = 0; i < plan.made; i++) {
            if (!isTold(i, given)) {
                return 1L + i;
            }
        }
        return given > 2 * plan.made ? MORE_WERE_TOLD : 0L;
    }

    public long count(int what) {
        switch (what) {
            case 0:
                return players.number;
            case 1:
                return tick;
            case 2:
                return queue.waiting;
            case 3:
                return matches.going();
            case 4:
                return matches.ended;
            case 5:
                return toldCount;
            case 6:
                return teamSize;
            default:
                return finding(BEYOND);
        }
    }

    public long found(int k) {
        if (k < BEYOND || k > KIND || k >= findings.length) {
            return finding(BEYOND);
        }
        return findings[k];
    }

    // ---- what the calls share

    private long finding(int which) {
        if (which >= 0 && which < findings.length) {
            findings[which]++;
        }
        return LOW - which;
    }

    private static boolean isKind(int kind) {
        return kind >= ANY_PLAYER && kind <= DOUBTED;
    }

    private static boolean isLevel(int level) {
        return level >= 0 && level < LEVELS;
    }

    private static boolean isBound(int v) {
        return v >= 0 && v <= HIGHEST_BOUND;
    }

    private static int bitOf(int player) {
        return 1 << player;
    }

    private static boolean hasBit(int bits, int place) {
        return ((bits >> place) & 1) == 1;
    }

    private static long evenShare(int level) {
        return level == MIDDLE_LEVEL ? EVEN_SHARE + 1L : EVEN_SHARE;
    }

    /** The players of a party as bits; 0 if no party can be of these. */
    private int partyOf(int a, int b, int c) {
        if (players.at(a) == null) {
            return 0;
        }
        if (b == NOBODY) {
            return c == NOBODY ? bitOf(a) : 0;
        }
        if (players.at(b) == null || b == a) {
            return 0;
        }
        if (c == NOBODY) {
            return bitOf(a) | bitOf(b);
        }
        if (players.at(c) == null || c == a || c == b) {
            return 0;
        }
        return bitOf(a) | bitOf(b) | bitOf(c);
    }

    /** Whether the party at a place has THE PAIRING; it stands in pairings then, which have been gathered. */
    private boolean hasPairing(Queue row, int place) {
        return pairings.seek(place) && pairings.uneven <= bounds.behind(tick - row.sinceAt(place));
    }

    private boolean anyPairing(Queue row) {
        pairings.gather(row, players, teamSize);
        for (int place = 0; place < row.waiting; place++) {
            if (hasPairing(row, place)) {
                return true;
            }
        }
        return false;
    }

    /** Takes out of the row the parties that a tick puts together, and keeps their teams in the plan. */
    private void planTick(Queue row) {
        plan.made = 0;
        int room = MOST_MATCHES - matches.going();
        for (int i = 0; i < room; i++) {
            if (!anyPairing(row)) {
                return;
            }
            plan.add(row.playersAt(pairings.first), row.playersAt(pairings.second));
            row.release(pairings.first | pairings.second);
        }
    }

    private boolean isTold(int i, int given) {
        int place = 2 * i;
        if (place < 0 || place + 1 >= given || place + 1 >= told.length) {
            return false;
        }
        return told[place] == plan.firstAt(i) && told[place + 1] == plan.secondAt(i);
    }

    /** One player: its kind, its table and the surprises of its results. */
    private static final class Player {
        int kind;
        final long[] shares;
        /** The table behind a result, while all others still go by the one ahead of it. */
        final long[] next;
        final long[] surprises;
        int kept;

        Player(int kind) {
            this.kind = kind;
            shares = new long[LEVELS];
            next = new long[LEVELS];
            surprises = new long[MOST_SURPRISES];
            kept = 0;
            for (int level = 0; level < shares.length; level++) {
                shares[level] = evenShare(level);
            }
        }

        long ownMean() {
            long sum = 0L;
            for (int level = 0; level < shares.length; level++) {
                sum += level * shares[level];
            }
            return sum;
        }

        void drawToTheMiddle() {
            long left = MILLION;
            for (int level = 0; level < shares.length; level++) {
                shares[level] = (shares[level] + evenShare(level)) / 2L;
                left -= shares[level];
            }
            shares[MIDDLE_LEVEL] += left;
        }

        /** Reckons the table behind a result by a factor for each level; settle() makes it the player's own. */
        void reckonNext(long[] factors) {
            for (int level = 0; level < next.length && level < shares.length; level++) {
                next[level] = shares[level];
            }
            moveNext(factors);
            if (kind == NEW) {
                moveNext(factors);
            }
        }

        private void moveNext(long[] factors) {
            long all = 0L;
            for (int level = 0; level < next.length && level < factors.length; level++) {
                all += next[level] * factors[level];
            }
            if (all <= 0L) {
                return;
            }
            long left = MILLION;
            for (int level = 0; level < next.length && level < factors.length; level++) {
                next[level] = next[level] * factors[level] * MILLION / all;
                left -= next[level];
            }
            next[greatestNext()] += left;
        }

        private int greatestNext() {
            int greatest = 0;
            for (int level = 1; level < next.length; level++) {
                if (next[level] > next[greatest]) {
                    greatest = level;
                }
            }
            return greatest;
        }

        void settle() {
            for (int level = 0; level < shares.length && level < next.length; level++) {
                shares[level] = next[level];
            }
        }

        void keepSurprise(long v) {
            if (kept >= surprises.length) {
                for (int i = 1; i < surprises.length; i++) {
                    surprises[i - 1] = surprises[i];
                }
                kept = surprises.length - 1;
            }
            surprises[kept] = v;
            kept++;
        }

        long sumOfSurprises() {
            long sum = 0L;
            for (int i = 0; i < kept && i < surprises.length; i++) {
                sum += surprises[i];
            }
            return sum;
        }
    }

    /** All players; teams are told as bits of their numbers. */
    private static final class Players {
        final Player[] row;
        final long[] factors;
        int number;

        Players() {
            row = new Player[MOST_PLAYERS];
            factors = new long[LEVELS];
            number = 0;
        }

        /** The player of a number, or null if there is no such one. */
        Player at(int player) {
            if (player < 0 || player >= number || player >= row.length) {
                return null;
            }
            return row[player];
        }

        /** The number of one who comes, or -1 if all places are taken. */
        int admit(int kind) {
            if (number < 0 || number >= row.length) {
                return -1;
            }
            row[number] = new Player(kind);
            number++;
            return number - 1;
        }

        void drawToTheMiddle() {
            for (int i = 0; i < row.length; i++) {
                Player one = at(i);
                if (one != null) {
                    one.drawToTheMiddle();
                }
            }
        }

        long meansOf(int team) {
            long sum = 0L;
            for (int i = 0; i < row.length; i++) {
                Player one = at(i);
                if (one != null && hasBit(team, i)) {
                    sum += one.ownMean();
                }
            }
            return sum;
        }

        /** Those of a team by whom tables may move. */
        int undoubted(int team) {
            int bits = 0;
            for (int i = 0; i < row.length; i++) {
                Player one = at(i);
                if (one != null && hasBit(team, i) && one.kind != DOUBTED) {
                    bits |= bitOf(i);
                }
            }
            return bits;
        }

        long chanceAt(int level, int team) {
            long sum = 0L;
            long members = 0L;
            for (int i = 0; i < row.length; i++) {
                Player one = at(i);
                if (one != null && hasBit(team, i)) {
                    sum += oddsAgainst(level, one);
                    members++;
                }
            }
            return members > 0L ? sum / (ODDS_UNIT * members) : 0L;
        }

        private static long oddsAgainst(int level, Player other) {
            long sum = 0L;
            for (int m = 0; m < other.shares.length; m++) {
                sum += other.shares[m] * (EVEN_ODDS + ODDS_A_LEVEL * (level - m));
            }
            return sum;
        }

        long chanceOf(Player one, int team) {
            long sum = 0L;
            for (int level = 0; level < one.shares.length; level++) {
                sum += one.shares[level] * chanceAt(level, team);
            }
            return sum / MILLION;
        }

        long teamChance(int team, int other) {
            long sum = 0L;
            long members = 0L;
            for (int i = 0; i < row.length; i++) {
                Player one = at(i);
                if (one != null && hasBit(team, i)) {
                    sum += chanceOf(one, other);
                    members++;
                }
            }
            return members > 0L ? sum / members : 0L;
        }

        /** Reckons what a result makes of a player, and keeps its surprise; false if none is there to move it. */
        boolean reckon(Player one, int rivals, int result) {
            int against = undoubted(rivals);
            if (against == 0) {
                return false;
            }
            one.keepSurprise(HALF_MILLION * result - chanceOf(one, against));
            for (int level = 0; level < factors.length; level++) {
                factors[level] = factorOf(chanceAt(level, against), result);
            }
            one.reckonNext(factors);
            return true;
        }

        private static long factorOf(long chance, int result) {
            if (result == WON) {
                return chance;
            }
            if (result == DRAWN) {
                return chance * (MILLION - chance) / MILLION;
            }
            return MILLION - chance;
        }

        /** Reckons a result for all of a team; those whose tables are to move by it, as bits. */
        int reckonTeam(int team, int rivals, int result) {
            int moved = 0;
            for (int i = 0; i < row.length; i++) {
                Player one = at(i);
                if (one != null && hasBit(team, i) && reckon(one, rivals, result)) {
                    moved |= bitOf(i);
                }
            }
            return moved;
        }

        void settleTeam(int team) {
            for (int i = 0; i < row.length; i++) {
                Player one = at(i);
                if (one != null && hasBit(team, i)) {
                    one.settle();
                }
            }
        }
    }

    /** How uneven a pairing may be for a party that waited so long. */
    private static final class Bounds {
        long base;
        long step;
        long top;

        Bounds() {
            base = 300000L;
            step = 100000L;
            top = 3000000L;
        }

        long behind(long ticks) {
            return Math.min(base + step * ticks, top);
        }
    }

    /** The parties that wait, the one that came first at place 0. */
    private static final class Queue {
        final int[] parties;
        final long[] since;
        int waiting;

        Queue() {
            parties = new int[MOST_PARTIES];
            since = new long[MOST_PARTIES];
            waiting = 0;
        }

        void copyOf(Queue other) {
            for (int place = 0; place < parties.length; place++) {
                parties[place] = other.partyAt(place);
                since[place] = other.sinceAt(place);
            }
            waiting = other.waiting;
        }

        /** False if all places are taken. */
        boolean join(int party, long tick) {
            if (waiting < 0 || waiting >= parties.length || waiting >= since.length) {
                return false;
            }
            parties[waiting] = party;
            since[waiting] = tick;
            waiting++;
            return true;
        }

        int partyAt(int place) {
            return place >= 0 && place < waiting && place < parties.length ? parties[place] : 0;
        }

        long sinceAt(int place) {
            return place >= 0 && place < waiting && place < since.length ? since[place] : 0L;
        }

        int everybody() {
            return playersAt(-1);
        }

        int playersAt(int places) {
            int bits = 0;
            for (int place = 0; place < parties.length; place++) {
                if (hasBit(places, place)) {
                    bits |= partyAt(place);
                }
            }
            return bits;
        }

        /** The place of a player's party, or -1 if it doesn't wait. */
        int placeOf(int player) {
            for (int place = 0; place < parties.length; place++) {
                if ((partyAt(place) & player) != 0) {
                    return place;
                }
            }
            return -1;
        }

        /** The parties at these places wait no more; the others keep their order. */
        void release(int places) {
            int stay = 0;
            for (int place = 0; place < waiting && place < parties.length && place < since.length; place++) {
                if (!hasBit(places, place)) {
                    parties[stay] = parties[place];
                    since[stay] = since[place];
                    stay++;
                }
            }
            waiting = stay;
        }
    }

    /** All teams that the parties of a queue can make, and the least uneven two of them for a party. */
    private static final class Pairings {
        /** The places of each team's parties as bits, in rising order. */
        final int[] teams;
        final long[] means;
        int number;
        int first;
        int second;
        long uneven;

        Pairings() {
            teams = new int[MOST_TEAMS];
            means = new long[MOST_TEAMS];
            number = 0;
            first = 0;
            second = 0;
            uneven = 0L;
        }

        void gather(Queue queue, Players players, int teamSize) {
            number = 0;
            int end = 1 << Math.min(queue.waiting, MOST_PARTIES);
            for (int places = 1; places < end; places++) {
                if (Integer.bitCount(places) <= teamSize) {
                    int team = queue.playersAt(places);
                    if (Integer.bitCount(team) == teamSize) {
                        add(places, players.meansOf(team));
                    }
                }
            }
        }

        private void add(int places, long mean) {
            if (number >= 0 && number < teams.length && number < means.length) {
                teams[number] = places;
                means[number] = mean;
                number++;
            }
        }

        /** Finds the least uneven pairing for the party at a place; false if there is none. */
        boolean seek(int place) {
            first = 0;
            second = 0;
            uneven = 0L;
            for (int i = 0; i < number && i < teams.length; i++) {
                if (hasBit(teams[i], place)) {
                    seekSecond(i);
                }
            }
            return first != 0;
        }

        /** Of several that are as uneven the earliest found stays, since teams are in rising order. */
        private void seekSecond(int i) {
            if (i < 0 || i >= teams.length || i >= means.length) {
                return;
            }
            for (int j = 0; j < number && j < teams.length && j < means.length; j++) {
                if ((teams[i] & teams[j]) == 0) {
                    long difference = Math.abs(means[i] - means[j]);
                    if (first == 0 || difference < uneven) {
                        first = teams[i];
                        second = teams[j];
                        uneven = difference;
                    }
                }
            }
        }
    }

    /** The teams, as bits of players, that a tick puts together. */
    private static final class Plan {
        final int[] firsts;
        final int[] seconds;
        int made;

        Plan() {
            firsts = new int[MOST_MATCHES];
            seconds = new int[MOST_MATCHES];
            made = 0;
        }

        void add(int first, int second) {
            if (made >= 0 && made < firsts.length && made < seconds.length) {
                firsts[made] = first;
                seconds[made] = second;
                made++;
            }
        }

        int firstAt(int i) {
            return i >= 0 && i < firsts.length ? firsts[i] : 0;
        }

        int secondAt(int i) {
            return i >= 0 && i < seconds.length ? seconds[i] : 0;
        }
    }

    /** A place for a match; none goes on there while its teams are empty. */
    private static final class Match {
        int first;
        int second;
        int dropped;
        long made;

        Match() {
            first = 0;
            second = 0;
            dropped = 0;
            made = 0L;
        }

        void clear() {
            first = 0;
            second = 0;
            dropped = 0;
            made = 0L;
        }

        boolean goesOn() {
            return first != 0;
        }

        int playing() {
            return (first | second) & ~dropped;
        }

        int rivalsOf(int player) {
            return (first & player) != 0 ? second : first;
        }

        boolean isDeserted() {
            return (first & ~dropped) == 0 || (second & ~dropped) == 0;
        }

        /** The result of the first team when one team is deserted. */
        int resultOfDeserted() {
            return (first & ~dropped) == 0 ? LOST : WON;
        }
    }

    /** The places for matches that go on. */
    private static final class Matches {
        final Match[] row;
        long ended;

        Matches() {
            row = new Match[MOST_MATCHES];
            for (int m = 0; m < row.length; m++) {
                row[m] = new Match();
            }
            ended = 0L;
        }

        /** The place of a number, or null if there is no such one. */
        Match at(int m) {
            return m >= 0 && m < row.length ? row[m] : null;
        }

        int going() {
            int sum = 0;
            for (int m = 0; m < row.length; m++) {
                Match one = row[m];
                if (one != null && one.goesOn()) {
                    sum++;
                }
            }
            return sum;
        }

        int everybody() {
            int bits = 0;
            for (int m = 0; m < row.length; m++) {
                Match one = row[m];
                if (one != null) {
                    bits |= one.playing();
                }
            }
            return bits;
        }

        /** The match that a player is in and didn't drop out of, or null. */
        Match withPlayer(int player) {
            for (int m = 0; m < row.length; m++) {
                Match one = row[m];
                if (one != null && (one.playing() & player) != 0) {
                    return one;
                }
            }
            return null;
        }

        void begin(int first, int second, long tick) {
            for (int m = 0; m < row.length; m++) {
                Match one = row[m];
                if (one != null && !one.goesOn()) {
                    one.first = first;
                    one.second = second;
                    one.dropped = 0;
                    one.made = tick;
                    return;
                }
            }
        }

        /** Ends a match: how many tables moved. All are reckoned before one settles, so that each goes by those ahead. */
        int finish(Match one, int result, Players players) {
            int moved = players.reckonTeam(one.first & ~one.dropped, one.second, result)
                    | players.reckonTeam(one.second & ~one.dropped, one.first, WON - result);
            players.settleTeam(moved);
            one.clear();
            ended++;
            return Integer.bitCount(moved);
        }
    }
}
