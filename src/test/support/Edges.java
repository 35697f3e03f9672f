import java.lang.reflect.InvocationTargetException;
import java.lang.reflect.Method;
import java.util.ArrayList;
import java.util.Arrays;
import java.util.Comparator;
import java.util.List;

/** What the tests of the edges share: findings, states to start from, and how a test is run and judged. */
final class Edges {
    static final long LOW = -1000000000L;
    static final long BEYOND = -1000000001L;
    static final long NONE = -1000000002L;
    static final long STATE = -1000000003L;
    static final long FULL = -1000000004L;
    static final long KIND = -1000000005L;
    static final int LEAST = Integer.MIN_VALUE;
    static final int MOST = Integer.MAX_VALUE;
    static final long[] EVEN = {142857, 142857, 142857, 142858, 142857, 142857, 142857};

    private static int wrong = 0;
    private static String running = "";

    interface Act {
        long on(FairQueue x);
    }

    interface PlayerAct {
        long on(FairQueue x, int player);
    }

    interface Start {
        FairQueue make();
    }

    // ---- what is due

    static void say(String what) {
        wrong++;
        System.out.println(running + ": " + what);
    }

    static void due(String call, long got, long want) {
        if (got != want) {
            say(call + " answered " + got + ", due is " + want);
        }
    }

    static void dueTable(String what, FairQueue x, int player, long... want) {
        for (int level = 0; level < 7; level++) {
            due(what + ": share(" + player + ", " + level + ")", x.share(player, level), want[level]);
        }
    }

    /**
     * The call answers the finding, which is counted once, and changes nothing else: behind it the object answers all
     * calls of look() as one does that was never asked.
     */
    static void refused(String call, Start start, Act act, long finding) {
        FairQueue x = start.make();
        long[] before = findings(x);
        due(call, act.on(x), finding);
        long[] after = findings(x);
        for (int k = 1; k <= 5; k++) {
            due(call + " counted by found(" + k + ")", after[k] - before[k], finding == LOW - k ? 1 : 0);
        }
        List<Long> seen = look(x);
        List<Long> wanted = look(start.make());
        if (!seen.equals(wanted)) {
            say(call + " changed something: " + seen + ", due is " + wanted);
        }
    }

    private static long[] findings(FairQueue x) {
        long[] found = new long[6];
        for (int k = 1; k <= 5; k++) {
            found[k] = x.found(k);
        }
        return found;
    }

    /** No player of these numbers is there: below, above, and some that would fall on a player by wrapping round. */
    static void noSuchPlayer(String call, PlayerAct act) {
        int[] wide = {-1, -2, -16, -31, -32, LEAST, LEAST + 1, 3, 4, 15, 16, 31, 32, 33, 256, 65536, 65537, MOST};
        for (int p : wide) {
            refused(call + " of " + p + " where 3 are", Edges::few, x -> act.on(x, p), BEYOND);
        }
        for (int p : new int[] {-1, -16, LEAST, 16, 17, 32, 48, 256, 65536, MOST}) {
            refused(call + " of " + p + " where 16 are", Edges::busy, x -> act.on(x, p), BEYOND);
        }
        for (int p : new int[] {0, -1, 15, 16}) {
            refused(call + " of " + p + " where nobody is", FairQueue::new, x -> act.on(x, p), BEYOND);
        }
    }

    // ---- states to start from

    static FairQueue withPlayers(int... kinds) {
        FairQueue x = new FairQueue();
        for (int i = 0; i < kinds.length; i++) {
            due("setup: player", x.player(kinds[i]), i);
        }
        return x;
    }

    static FairQueue manyPlayers(int number, int teamSize) {
        FairQueue x = withPlayers(new int[number]);
        x.size(teamSize);
        return x;
    }

    /** Three players of all kinds; 1 waits, alone, with a bound that shows base, step and top; two numbers wait. */
    static FairQueue few() {
        FairQueue x = withPlayers(0, 1, 2);
        x.size(1);
        x.bounds(1, 2, 9);
        x.limit(7);
        x.shift(1, 0, 6, 5);
        x.wait(1, -1, -1);
        x.tick();
        x.tell(3);
        x.tell(48);
        return x;
    }

    /**
     * All that can be is: 16 players, ten parties (4 .. 13, each alone), 20 numbers. 0 and 1 play 2 and 3 once more in
     * match 0, 0 dropped; 14 and 15 idle. 5 is NEW, 6 is DOUBTED. 0 has two surprises, 1, 2, 3 have one.
     */
    static FairQueue busy() {
        FairQueue x = withPlayers(0, 0, 0, 0, 0, 1, 2, 0, 0, 0, 0, 0, 0, 0, 0, 0);
        x.bounds(10000000, 0, 10000000);
        for (int i = 0; i < 2; i++) {
            x.wait(0, 1, -1);
            x.wait(2, 3, -1);
            due("setup: tick", x.tick(), 1);
            due("setup: end or drop", i == 0 ? x.end(0, 2) : x.drop(0), i == 0 ? 4 : 0);
        }
        for (int p = 4; p < 14; p++) {
            due("setup: wait", x.wait(p, -1, -1), p - 3);
        }
        for (int i = 1; i <= 20; i++) {
            due("setup: tell", x.tell(i), i);
        }
        return x;
    }

    /** 0 against 1 in match 0, tables as at first; nobody waits. */
    static FairQueue duel(int kind, int otherKind) {
        FairQueue x = withPlayers(kind, otherKind);
        x.size(1);
        again(x);
        return x;
    }

    /** 0 and 1 wait, each alone, and play. */
    static void again(FairQueue x) {
        x.wait(0, -1, -1);
        x.wait(1, -1, -1);
        due("setup: again", x.tick(), 1);
    }

    /** 0, 1 against 2, 3 in match 0, tables as at first. */
    static FairQueue twoAgainstTwo(int a, int b, int c, int d) {
        FairQueue x = withPlayers(a, b, c, d);
        x.wait(0, 1, -1);
        x.wait(2, 3, -1);
        due("setup: two against two", x.tick(), 1);
        return x;
    }

    /** 0, 1, 2 against 3, 4, 5 in match 0, tables as at first. */
    static FairQueue threeAgainstThree(int... kinds) {
        FairQueue x = withPlayers(kinds);
        x.size(3);
        x.wait(0, 1, 2);
        x.wait(3, 4, 5);
        due("setup: three against three", x.tick(), 1);
        return x;
    }

    static void allAtLevel(FairQueue x, int player, int level) {
        for (int from = 0; from < 7; from++) {
            if (from != level) {
                x.shift(player, from, level, (int) x.share(player, from));
            }
        }
        due("setup: all at level " + level, x.share(player, level), 1000000);
    }

    /** Half at the bottom, half at the top: against an even one its chances are 290000 and 710000. */
    static void halfAndHalf(FairQueue x, int player) {
        allAtLevel(x, player, 0);
        due("setup: half and half", x.shift(player, 0, 6, 500000), 500000);
    }

    static void waitAlone(FairQueue x, int from, int to) {
        for (int p = from; p <= to; p++) {
            x.wait(p, -1, -1);
        }
    }

    static void ticks(FairQueue x, int number) {
        for (int i = 0; i < number; i++) {
            x.tick();
        }
    }

    // ---- all that can be seen of an object, in fewer than 400 calls

    static List<Long> look(FairQueue x) {
        List<Long> seen = new ArrayList<>();
        for (int what = 0; what <= 6; what++) {
            seen.add(x.count(what));
        }
        long players = x.count(0);
        for (int p = 0; p < players; p++) {
            lookAtPlayer(x, p, seen);
        }
        lookAtMatches(x, seen);
        seen.add(x.sinking());
        seen.add(x.check());
        seen.add(x.limit(0));
        seen.add(x.sinking());
        for (int p = 0; p < players; p++) {
            seen.add(x.become(p, 0));
        }
        lookAtWhatComes(x, seen);
        return seen;
    }

    private static void lookAtPlayer(FairQueue x, int p, List<Long> seen) {
        for (int level = 0; level < 7; level++) {
            seen.add(x.share(p, level));
        }
        seen.add(x.waited(p, false));
        if (seen.get(seen.size() - 1) >= 0) {
            seen.add(x.waited(p, true));
            for (int what = 0; what <= 2; what++) {
                seen.add(x.pairing(p, what));
            }
        }
        seen.add(x.surprise(p, -1));
        for (int i = 0; i < 8 && seen.get(seen.size() - 1) != NONE; i++) {
            seen.add(x.surprise(p, i));
        }
    }

    private static void lookAtMatches(FairQueue x, List<Long> seen) {
        for (int m = 0; m < 5; m++) {
            seen.add(x.match(m, 0));
            for (int what = 1; what <= 4 && seen.get(seen.size() - 1) != NONE; what++) {
                seen.add(x.match(m, what));
            }
        }
    }

    /** Steps and tops of bounds, the order of those that wait and the size of teams show by what comes. */
    private static void lookAtWhatComes(FairQueue x, List<Long> seen) {
        for (int i = 0; i < 5; i++) {
            seen.add(x.tick());
            seen.add(x.waited(1, true));
            seen.add(x.waited(13, true));
        }
        lookAtMatches(x, seen);
        for (int m = 0; m < 5; m++) {
            seen.add(x.end(m, 2));
        }
        seen.add(x.mean(0));
        seen.add(x.mean(1));
        seen.add(x.player(0));
    }

    // ---- running

    static int promiseOf(Method test) {
        String name = test.getName();
        int end = name.indexOf('_');
        return name.matches("promise[0-9]+_\\w+") ? Integer.parseInt(name.substring("promise".length(), end)) : 0;
    }

    /** The tests of a class in order of their promises: each method that says which words it holds the program to. */
    static List<Method> testsOf(Class<?> tests) {
        List<Method> all = new ArrayList<>();
        for (Method method : tests.getDeclaredMethods()) {
            if (promiseOf(method) > 0) {
                all.add(method);
            }
        }
        all.sort(Comparator.comparingInt(Edges::promiseOf).thenComparing(Method::getName));
        return all;
    }

    static String[] quotes(Method test) {
        Says says = test.getAnnotation(Says.class);
        return says == null ? new String[0] : says.value();
    }

    static void run(Class<?> tests) throws Exception {
        List<Method> all = testsOf(tests);
        for (Method test : all) {
            running = test.getName();
            int before = wrong;
            try {
                test.setAccessible(true);
                test.invoke(null);
            } catch (InvocationTargetException e) {
                say("threw " + e.getCause() + " at " + Arrays.toString(e.getCause().getStackTrace()));
            }
            if (wrong > before) {
                System.out.println("FAILED: " + running);
            }
        }
        System.out.println(all.size() + " tests of edges, " + wrong + " answers not as due");
        finish();
    }

    static void finish() {
        if (wrong != 0) {
            System.exit(1);
        }
    }
}
