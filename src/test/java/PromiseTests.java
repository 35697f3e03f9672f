/**
 * A test for each promise of the document. The answers were worked out from its words, not taken from the program: moved
 * tables and the chances against them by a small script apart from it, all others by hand.
 */
public final class PromiseTests {
    private static final long BEYOND = -1000000001L;
    private static final long NONE = -1000000002L;
    private static final long STATE = -1000000003L;
    private static final long FULL = -1000000004L;
    private static final long KIND = -1000000005L;
    private static final int LEAST = Integer.MIN_VALUE;
    private static final int MOST = Integer.MAX_VALUE;
    private static final long[] EVEN = {142857, 142857, 142857, 142858, 142857, 142857, 142857};

    private static int wrong = 0;

    private static void due(String call, long got, long want) {
        if (got != want) {
            wrong++;
            System.out.println(call + " answered " + got + ", due is " + want);
        }
    }

    private static void dueTable(String what, FairQueue x, int player, long... want) {
        for (int level = 0; level < 7; level++) {
            due(what + ": share(" + player + ", " + level + ")", x.share(player, level), want[level]);
        }
    }

    private static FairQueue withPlayers(int... kinds) {
        FairQueue x = new FairQueue();
        for (int i = 0; i < kinds.length; i++) {
            due("setup: player", x.player(kinds[i]), i);
        }
        return x;
    }

    private static void allAtLevel(FairQueue x, int player, int level) {
        for (int from = 0; from < 7; from++) {
            if (from != level) {
                x.shift(player, from, level, (int) x.share(player, from));
            }
        }
        due("setup: all at level " + level, x.share(player, level), 1000000);
    }

    /** Two players of the given kinds in match 0 of teams of one, both tables as at first. */
    private static FairQueue duel(int first, int second) {
        FairQueue x = withPlayers(first, second);
        x.size(1);
        x.wait(0, -1, -1);
        x.wait(1, -1, -1);
        due("setup: duel", x.tick(), 1);
        return x;
    }

    /** Players 0, 1 against 2, 3 in match 0. */
    private static FairQueue twoAgainstTwo(int a, int b, int c, int d) {
        FairQueue x = withPlayers(a, b, c, d);
        x.wait(0, 1, -1);
        x.wait(2, 3, -1);
        due("setup: two against two", x.tick(), 1);
        return x;
    }

    private static void again(FairQueue x) {
        x.wait(0, -1, -1);
        x.wait(1, -1, -1);
        due("setup: again", x.tick(), 1);
    }

    private static void promise1() {
        FairQueue x = new FairQueue();
        for (int what = 0; what <= 5; what++) {
            due("new: count(" + what + ")", x.count(what), 0);
        }
        due("new: count(6)", x.count(6), 2);
        due("new: sinking", x.sinking(), 0);
        for (int k = 1; k <= 5; k++) {
            due("new: found(" + k + ")", x.found(k), 0);
        }
        due("new: limit", x.limit(0), 1500000);
        due("new: mean", x.mean(0), BEYOND);
        due("new: match", x.match(0, 0), NONE);
        FairQueue y = new FairQueue();
        due("new: another one counts on its own", y.found(1), 0);
        due("new: another one's limit", y.limit(0), 1500000);
    }

    private static void promise2() {
        FairQueue x = new FairQueue();
        due("player(-1)", x.player(-1), BEYOND);
        due("player(3)", x.player(3), BEYOND);
        due("player(LEAST)", x.player(LEAST), BEYOND);
        due("player(MOST)", x.player(MOST), BEYOND);
        due("no player came", x.count(0), 0);
        for (int i = 0; i < 16; i++) {
            due("player", x.player(i % 3), i);
            dueTable("at first", x, i, EVEN);
        }
        due("17th player", x.player(0), FULL);
        due("17th player of no kind", x.player(3), BEYOND);
        due("16 players", x.count(0), 16);
    }

    private static void promise3() {
        FairQueue x = withPlayers(0, 1, 2);
        due("become(0, 2)", x.become(0, 2), 0);
        due("become(0, 1)", x.become(0, 1), 2);
        due("become(0, 1) again", x.become(0, 1), 1);
        due("become(0, 0)", x.become(0, 0), 1);
        due("become(2, 0)", x.become(2, 0), 2);
        due("become(3, 0)", x.become(3, 0), BEYOND);
        due("become(-1, 0)", x.become(-1, 0), BEYOND);
        due("become(MOST, 0)", x.become(MOST, 0), BEYOND);
        due("become(1, 3)", x.become(1, 3), BEYOND);
        due("become(1, -1)", x.become(1, -1), BEYOND);
        due("findings change no kind", x.become(1, 0), 1);
    }

    private static void promise4() {
        FairQueue x = withPlayers(0, 1, 2);
        x.shift(1, 0, 1, 5);
        x.shift(2, 0, 1, 7);
        due("as(0, 0)", x.as(0, 0), 3000000);
        due("as(1, 0)", x.as(1, 0), 3000005);
        due("as(2, 0)", x.as(2, 0), 3000007);
        due("as(1, 1)", x.as(1, 1), 3000005);
        due("as(2, 2)", x.as(2, 2), 3000007);
        due("as(0, 1)", x.as(0, 1), KIND);
        due("as(0, 2)", x.as(0, 2), KIND);
        due("as(1, 2)", x.as(1, 2), KIND);
        due("as(2, 1)", x.as(2, 1), KIND);
        due("as(3, 0)", x.as(3, 0), BEYOND);
        due("as(-1, 0)", x.as(-1, 0), BEYOND);
        due("as(0, 3)", x.as(0, 3), BEYOND);
        due("as(0, -1)", x.as(0, -1), BEYOND);
        x.become(0, 1);
        due("as(0, 1) behind become", x.as(0, 1), 3000000);
    }

    private static void promise5() {
        FairQueue x = withPlayers(0);
        dueTable("share", x, 0, EVEN);
        due("share(0, 7)", x.share(0, 7), BEYOND);
        due("share(0, -1)", x.share(0, -1), BEYOND);
        due("share(0, LEAST)", x.share(0, LEAST), BEYOND);
        due("share(1, 0)", x.share(1, 0), BEYOND);
        due("share(-1, 0)", x.share(-1, 0), BEYOND);
        due("share(16, 0)", x.share(16, 0), BEYOND);
    }

    private static void promise6() {
        FairQueue x = withPlayers(0, 0);
        due("shift of nothing", x.shift(0, 0, 1, 0), 142857);
        due("shift of 10", x.shift(0, 0, 1, 10), 142867);
        due("the first one's", x.share(0, 0), 142847);
        due("shift of one too many", x.shift(0, 0, 1, 142848), BEYOND);
        due("shift of all", x.shift(0, 0, 1, 142847), 285714);
        due("the first one's, empty", x.share(0, 0), 0);
        due("shift out of nothing", x.shift(0, 0, 1, 1), BEYOND);
        due("shift to itself", x.shift(0, 1, 1, 285714), 285714);
        due("shift to itself of too many", x.shift(0, 1, 1, 285715), BEYOND);
        due("shift of less than 0", x.shift(0, 1, 0, -1), BEYOND);
        due("shift of LEAST", x.shift(0, 1, 0, LEAST), BEYOND);
        due("shift from 7", x.shift(0, 7, 0, 0), BEYOND);
        due("shift from -1", x.shift(0, -1, 0, 0), BEYOND);
        due("shift to 7", x.shift(0, 0, 7, 0), BEYOND);
        due("shift to -1", x.shift(0, 0, -1, 0), BEYOND);
        due("shift of no player", x.shift(2, 0, 1, 0), BEYOND);
        dueTable("shifted", x, 0, 0, 285714, 142857, 142858, 142857, 142857, 142857);
        dueTable("the other one", x, 1, EVEN);
    }

    private static void promise7() {
        FairQueue x = withPlayers(0, 0);
        due("mean at first", x.mean(0), 3000000);
        x.shift(0, 2, 5, 1000);
        due("mean behind a shift", x.mean(0), 3003000);
        allAtLevel(x, 1, 6);
        due("mean at the top", x.mean(1), 6000000);
        allAtLevel(x, 1, 0);
        due("mean at the bottom", x.mean(1), 0);
        due("mean(2)", x.mean(2), BEYOND);
        due("mean(-1)", x.mean(-1), BEYOND);
    }

    private static void promise8() {
        FairQueue x = withPlayers(0, 0, 2);
        due("chance of equals", x.chance(0, 1), 500000);
        due("chance against a doubted one", x.chance(0, 2), 500000);
        allAtLevel(x, 0, 6);
        due("chance of the top against even", x.chance(0, 1), 710000);
        due("chance of even against the top", x.chance(1, 0), 290000);
        allAtLevel(x, 1, 0);
        due("chance of the top against the bottom", x.chance(0, 1), 920000);
        due("chance of the bottom against the top", x.chance(1, 0), 80000);
        // 285714 at level 6: each level's chance is 230000.06 and 70000 a level, cut; the other way cut at the end.
        FairQueue y = withPlayers(0, 0);
        y.shift(0, 0, 6, 142857);
        due("chance cut at the end", y.chance(0, 1), 559999);
        due("chance cut at each level", y.chance(1, 0), 440000);
        due("chance against itself", x.chance(0, 0), BEYOND);
        due("chance(0, 3)", x.chance(0, 3), BEYOND);
        due("chance(3, 0)", x.chance(3, 0), BEYOND);
        due("chance(-1, 0)", x.chance(-1, 0), BEYOND);
        due("chance(0, -1)", x.chance(0, -1), BEYOND);
        due("chance(3, 3)", x.chance(3, 3), BEYOND);
    }

    private static void promise9() {
        due("season of nobody", new FairQueue().season(), 0);
        FairQueue x = withPlayers(0, 1, 2);
        allAtLevel(x, 0, 6);
        x.shift(1, 0, 1, 1);
        due("season", x.season(), 3);
        // 142857 by 2 is cut six times at half a part: levels 0 .. 5 but 3 lose a half each, level 6 too.
        dueTable("season of the top", x, 0, 71428, 71428, 71428, 71432, 71428, 71428, 571428);
        dueTable("season of nearly even", x, 1, 142856, 142857, 142857, 142859, 142857, 142857, 142857);
        dueTable("season of even", x, 2, EVEN);
        FairQueue y = duel(0, 0);
        due("season while a match goes on", y.season(), STATE);
        y.end(0, 2);
        due("season behind it", y.season(), 2);
        y.wait(0, -1, -1);
        due("season while a party waits", y.season(), 2);
    }

    private static void promise10() {
        FairQueue x = withPlayers(0, 0);
        due("size(3)", x.size(3), 2);
        due("size(1)", x.size(1), 3);
        due("size(0)", x.size(0), BEYOND);
        due("size(4)", x.size(4), BEYOND);
        due("size(LEAST)", x.size(LEAST), BEYOND);
        due("T", x.count(6), 1);
        x.wait(0, -1, -1);
        due("size while one waits", x.size(2), STATE);
        due("size(4) while one waits", x.size(4), BEYOND);
        x.wait(1, -1, -1);
        x.tick();
        due("nobody waits", x.count(2), 0);
        due("size while a match goes on", x.size(2), STATE);
        x.end(0, 1);
        due("size behind it", x.size(2), 1);
    }

    private static void promise11() {
        FairQueue x = withPlayers(0);
        due("bounds of nothing", x.bounds(0, 0, 0), 1);
        due("bounds at most", x.bounds(10000000, 10000000, 10000000), 1);
        due("bounds", x.bounds(1, 2, 9), 1);
        due("base below", x.bounds(-1, 5, 5), BEYOND);
        due("step below", x.bounds(5, -1, 5), BEYOND);
        due("top below", x.bounds(5, 5, -1), BEYOND);
        due("base above", x.bounds(10000001, 5, 5), BEYOND);
        due("step above", x.bounds(5, 10000001, 5), BEYOND);
        due("top above", x.bounds(5, 5, 10000001), BEYOND);
        x.wait(0, -1, -1);
        due("base", x.waited(0, true), 1);
        x.tick();
        due("base and a step", x.waited(0, true), 3);
        x.bounds(1, 4, 9);
        due("base and another step", x.waited(0, true), 5);
        x.tick();
        x.tick();
        due("the top", x.waited(0, true), 9);
        x.bounds(5, 0, 4);
        due("a top below base", x.waited(0, true), 4);
    }

    private static void promise12() {
        FairQueue x = withPlayers(0, 0, 0, 0, 0, 0);
        due("wait of nobody", x.wait(-1, -1, -1), BEYOND);
        due("wait of no first", x.wait(-1, 0, 1), BEYOND);
        due("wait(6, -1, -1)", x.wait(6, -1, -1), BEYOND);
        due("wait(0, 6, -1)", x.wait(0, 6, -1), BEYOND);
        due("wait(0, 1, 6)", x.wait(0, 1, 6), BEYOND);
        due("wait(0, -2, -1)", x.wait(0, -2, -1), BEYOND);
        due("wait(0, 1, -2)", x.wait(0, 1, -2), BEYOND);
        due("wait(0, -1, 1)", x.wait(0, -1, 1), BEYOND);
        due("wait(0, 0, -1)", x.wait(0, 0, -1), BEYOND);
        due("wait(0, 1, 0)", x.wait(0, 1, 0), BEYOND);
        due("wait(0, 1, 1)", x.wait(0, 1, 1), BEYOND);
        due("wait of three for teams of two", x.wait(0, 1, 2), KIND);
        due("wait of two", x.wait(0, 1, -1), 1);
        due("KIND ahead of STATE", x.wait(0, 1, 2), KIND);
        due("the first waits", x.wait(0, -1, -1), STATE);
        due("the second waits", x.wait(2, 1, -1), STATE);
        due("wait of one", x.wait(2, -1, -1), 2);
        x.leave(2);
        x.wait(3, 2, -1);
        due("a match", x.tick(), 1);
        due("one is in a match", x.wait(3, -1, -1), STATE);
        due("its partner is in a match", x.wait(4, 0, -1), STATE);
        due("others may wait", x.wait(4, 5, -1), 1);
        x.end(0, 2);
        due("wait behind the match", x.wait(0, 3, -1), 2);
        FairQueue y = withPlayers(0, 0, 0, 0, 0, 0, 0, 0, 0, 0, 0, 0);
        for (int i = 0; i < 10; i++) {
            due("wait", y.wait(i, -1, -1), i + 1);
        }
        due("STATE ahead of FULL", y.wait(0, -1, -1), STATE);
        due("an eleventh party", y.wait(10, 11, -1), FULL);
        due("ten wait", y.count(2), 10);
        FairQueue z = withPlayers(0);
        z.size(1);
        z.player(0);
        due("two for teams of one", z.wait(0, 1, -1), KIND);
    }

    private static void promise13() {
        FairQueue x = withPlayers(0, 0, 0, 0);
        due("leave of one who doesn't wait", x.leave(0), NONE);
        x.wait(0, -1, -1);
        x.wait(1, 2, -1);
        x.wait(3, -1, -1);
        due("leave of a second", x.leave(2), 2);
        due("its partner waits no more", x.leave(1), NONE);
        due("leave of the first", x.leave(0), 1);
        due("the last still waits", x.waited(3, false), 0);
        due("leave of the last", x.leave(3), 0);
        due("leave(4)", x.leave(4), BEYOND);
        due("leave(-1)", x.leave(-1), BEYOND);
    }

    private static void promise14() {
        FairQueue x = withPlayers(0, 0, 0);
        due("waited of one who doesn't", x.waited(0, false), NONE);
        due("bound of one who doesn't", x.waited(0, true), NONE);
        due("waited(3, false)", x.waited(3, false), BEYOND);
        due("waited(-1, true)", x.waited(-1, true), BEYOND);
        x.tick();
        x.wait(0, -1, -1);
        due("waited at once", x.waited(0, false), 0);
        due("bound at once", x.waited(0, true), 300000);
        x.tick();
        x.wait(1, 2, -1);
        x.tick();
        due("waited two", x.waited(0, false), 2);
        due("bound behind two", x.waited(0, true), 500000);
        due("waited one, by the second", x.waited(2, false), 1);
        due("bound behind one", x.waited(2, true), 400000);
        x.leave(0);
        due("the other keeps its time", x.waited(1, false), 1);
        x.wait(0, -1, -1);
        due("who comes again starts again", x.waited(0, false), 0);
        for (int i = 0; i < 30; i++) {
            x.tick();
        }
        due("waited long", x.waited(0, false), 30);
        due("bound at the top", x.waited(0, true), 3000000);
        x.bounds(10000000, 10000000, 10000000);
        for (int i = 0; i < 300; i++) {
            x.tick();
        }
        due("a wide bound's top", x.waited(0, true), 10000000);
    }

    private static void promise15() {
        FairQueue x = withPlayers(0, 0, 0, 0, 0);
        due("pairing of one who doesn't wait", x.pairing(0, 0), NONE);
        due("pairing(5, 0)", x.pairing(5, 0), BEYOND);
        due("pairing(-1, 0)", x.pairing(-1, 0), BEYOND);
        due("pairing(0, 3)", x.pairing(0, 3), BEYOND);
        due("pairing(0, -1)", x.pairing(0, -1), BEYOND);
        for (int i = 4; i >= 0; i--) {
            x.wait(i, -1, -1);
        }
        // Places go by arrival (4 at 0, .. 0 at 4): of even ones the first team is places 0, 1, the second 2, 3.
        due("uneven", x.pairing(4, 0), 0);
        due("first by places", x.pairing(4, 1), 0b11000);
        due("second by places", x.pairing(4, 2), 0b00110);
        due("first with the last", x.pairing(0, 1), 0b10001);
        due("second of the last", x.pairing(0, 2), 0b01100);
        // Player 4's mean goes up by 100000, player 2's by 60000, 0's by 40000: 4, x against 2, 0.
        x.shift(4, 0, 1, 100000);
        x.shift(2, 0, 1, 60000);
        x.shift(0, 0, 1, 40000);
        due("least uneven", x.pairing(4, 0), 0);
        due("its first", x.pairing(4, 1), 0b11000);
        due("its second", x.pairing(4, 2), 0b00101);
        due("the party's team comes first", x.pairing(2, 1), 0b00101);
        due("the other one second", x.pairing(2, 2), 0b11000);
        pairingWithinBound();
        pairingOfWholeParties();
        pairingOfThree();
    }

    private static void pairingWithinBound() {
        FairQueue x = withPlayers(0, 0);
        x.size(1);
        x.shift(0, 0, 3, 100000);
        x.wait(0, -1, -1);
        due("alone", x.pairing(0, 0), NONE);
        x.wait(1, -1, -1);
        due("as uneven as the bound", x.pairing(0, 0), 300000);
        due("the size of the difference", x.pairing(1, 0), 300000);
        x.shift(0, 0, 1, 1);
        due("above the bound", x.pairing(0, 0), NONE);
        x.leave(1);
        x.tick();
        x.wait(1, -1, -1);
        due("within the wider bound", x.pairing(0, 0), 300001);
        due("only its own bound counts", x.pairing(1, 0), NONE);
    }

    private static void pairingOfWholeParties() {
        FairQueue x = withPlayers(0, 0, 0, 0, 0);
        x.wait(0, 1, -1);
        x.wait(2, -1, -1);
        due("two against one", x.pairing(0, 0), NONE);
        x.wait(3, 4, -1);
        due("two against two", x.pairing(0, 2), 0b11000);
        due("one has none for its team", x.pairing(2, 0), NONE);
        x.bounds(10000000, 0, 10000000);
        allAtLevel(x, 0, 6);
        allAtLevel(x, 1, 6);
        allAtLevel(x, 3, 0);
        allAtLevel(x, 4, 0);
        due("as uneven as can be", x.pairing(0, 0), NONE);
        x.shift(0, 6, 2, 500000);
        due("10000000 uneven", x.pairing(0, 0), 10000000);
    }

    private static void pairingOfThree() {
        FairQueue x = withPlayers(0, 0, 0, 0, 0, 0, 0, 0, 0);
        x.size(3);
        x.wait(0, -1, -1);
        x.wait(1, 2, -1);
        x.wait(3, 4, 5);
        x.wait(6, 7, -1);
        x.wait(8, -1, -1);
        due("one and two", x.pairing(0, 1), 0b000000111);
        due("against three", x.pairing(0, 2), 0b000111000);
        due("three against one and two", x.pairing(3, 2), 0b000000111);
        due("the last with the earliest two", x.pairing(8, 1), 0b100000110);
    }

    private static void promise16() {
        FairQueue x = new FairQueue();
        due("tick of nobody", x.tick(), 0);
        due("the tick", x.count(1), 1);
        tickStartsAgainFromTheFirst();
        tickGoesOnBehindOneWithout();
        atMostFiveGoOn();
    }

    private static void tickStartsAgainFromTheFirst() {
        FairQueue x = withPlayers(0, 0, 0, 0, 0, 0);
        x.size(1);
        for (int i = 0; i < 6; i++) {
            x.wait(i, -1, -1);
        }
        x.shift(0, 0, 1, 3);
        x.shift(4, 0, 1, 3);
        due("three matches", x.tick(), 3);
        due("the first with its like", x.match(0, 1), 0b010000);
        due("then the next", x.match(1, 0), 0b000010);
        due("with the next", x.match(1, 1), 0b000100);
        due("the rest", x.match(2, 0), 0b001000);
        due("of them", x.match(2, 1), 0b100000);
        due("nobody waits", x.count(2), 0);
        due("the tick", x.count(1), 1);
    }

    private static void tickGoesOnBehindOneWithout() {
        FairQueue x = withPlayers(0, 0, 0);
        x.size(1);
        allAtLevel(x, 0, 6);
        x.wait(0, -1, -1);
        x.wait(1, -1, -1);
        x.wait(2, -1, -1);
        due("the second has a pairing", x.tick(), 1);
        due("of 1", x.match(0, 0), 0b010);
        due("and 2", x.match(0, 1), 0b100);
        due("0 still waits", x.waited(0, false), 1);
        x.end(0, 2);
        x.wait(1, -1, -1);
        // 0 waits 27 ticks till its bound reaches 3000000, which is as far as 6000000 is from 1's mean at most.
        long made = 0;
        for (int i = 0; i < 40 && made == 0; i++) {
            made = x.tick();
        }
        due("the bound widened", made, 1);
        due("the first team is the first party's", x.match(0, 0), 0b001);
    }

    private static void atMostFiveGoOn() {
        FairQueue x = withPlayers(0, 0, 0, 0, 0, 0, 0, 0, 0, 0, 0, 0, 0, 0);
        x.size(1);
        for (int i = 0; i < 8; i++) {
            x.wait(i, -1, -1);
        }
        due("four matches", x.tick(), 4);
        for (int i = 8; i < 14; i++) {
            x.wait(i, -1, -1);
        }
        due("a fifth", x.tick(), 1);
        due("no sixth", x.tick(), 0);
        due("four still wait", x.count(2), 4);
        due("it has a pairing all the same", x.pairing(10, 0), 0);
        due("the tick went on", x.count(1), 3);
        x.end(3, 1);
        x.end(1, 1);
        due("two more", x.tick(), 2);
        due("the least free number", x.match(1, 0), 1 << 10);
        due("and the next", x.match(3, 0), 1 << 12);
    }

    private static void promise17() {
        FairQueue x = twoAgainstTwo(0, 0, 0, 0);
        due("first", x.match(0, 0), 0b0011);
        due("second", x.match(0, 1), 0b1100);
        due("nobody dropped", x.match(0, 2), 0);
        due("made at", x.match(0, 3), 0);
        due("chance", x.match(0, 4), 500000);
        x.drop(2);
        due("who dropped", x.match(0, 2), 0b0100);
        allAtLevel(x, 1, 6);
        // 2 lost once (mean 2439997), so against 2 and 3: 519600 of an even one, 729600 of the top.
        due("chance as tables are now", x.match(0, 4), 624600);
        x.become(2, 2);
        x.become(3, 2);
        due("doubted ones count for the chance", x.match(0, 4), 624600);
        due("match(-1, 0)", x.match(-1, 0), BEYOND);
        due("match(5, 0)", x.match(5, 0), BEYOND);
        due("match(0, -1)", x.match(0, -1), BEYOND);
        due("match(0, 5)", x.match(0, 5), BEYOND);
        due("match(1, 5)", x.match(1, 5), BEYOND);
        due("match(4, 0)", x.match(4, 0), NONE);
        x.end(0, 1);
        due("ended", x.match(0, 0), NONE);
        x.tick();
        x.wait(0, 2, -1);
        x.wait(1, 3, -1);
        x.bounds(10000000, 0, 10000000);
        x.tick();
        due("made at a later tick", x.match(0, 3), 2);
        due("none dropped out of the new one", x.match(0, 2), 0);
    }

    private static void promise18() {
        FairQueue x = duel(0, 0);
        due("end(-1, 0)", x.end(-1, 0), BEYOND);
        due("end(5, 0)", x.end(5, 0), BEYOND);
        due("end(0, -1)", x.end(0, -1), BEYOND);
        due("end(0, 3)", x.end(0, 3), BEYOND);
        due("end(1, 3)", x.end(1, 3), BEYOND);
        due("end(1, 0)", x.end(1, 0), NONE);
        due("won", x.end(0, 2), 2);
        dueTable("winner", x, 0, 82857, 102857, 122857, 142858, 162856, 182856, 202859);
        dueTable("loser", x, 1, 202859, 182856, 162856, 142858, 122857, 102857, 82857);
        due("ended already", x.end(0, 2), NONE);
        FairQueue y = duel(0, 0);
        due("lost", y.end(0, 0), 2);
        dueTable("loser", y, 0, 202859, 182856, 162856, 142858, 122857, 102857, 82857);
        dueTable("winner", y, 1, 82857, 102857, 122857, 142858, 162856, 182856, 202859);
        FairQueue z = duel(0, 0);
        due("drawn", z.end(0, 1), 2);
        dueTable("draw", z, 0, 127666, 142856, 151971, 155014, 151971, 142856, 127666);
        dueTable("draw", z, 1, 127666, 142856, 151971, 155014, 151971, 142856, 127666);
        endOfNewOnes();
        endOfDoubtedOnes();
        endOfTeams();
        endAgainstTheTop();
        whatIsLeftOverGoesToTheLeastLevel();
    }

    /** 400000 at levels 1 and 5, 200000 at 3: a draw against an even one makes 393308.3, 393308.3 and 213383.4 of them. */
    private static void whatIsLeftOverGoesToTheLeastLevel() {
        FairQueue x = duel(0, 0);
        allAtLevel(x, 0, 3);
        x.shift(0, 3, 1, 400000);
        x.shift(0, 3, 5, 400000);
        x.end(0, 1);
        dueTable("of two as great", x, 0, 0, 393309, 0, 213383, 0, 393308, 0);
    }

    private static void endOfNewOnes() {
        FairQueue x = duel(1, 1);
        due("new ones", x.end(0, 2), 2);
        dueTable("new winner", x, 0, 44563, 68673, 97975, 132472, 172158, 217039, 267120);
        dueTable("new loser", x, 1, 267120, 217039, 172158, 132472, 97975, 68673, 44563);
        due("one surprise of both moves", x.surprise(0, 1), NONE);
        FairQueue y = duel(0, 1);
        due("an old one and a new one", y.end(0, 2), 2);
        due("the old one moves once", y.mean(0), 3560003);
        due("the new one twice", y.mean(1), 1961414);
    }

    private static void endOfDoubtedOnes() {
        FairQueue x = duel(0, 2);
        due("only the doubted one's moves", x.end(0, 0), 1);
        dueTable("nobody moved it", x, 0, EVEN);
        due("the doubted one's", x.mean(1), 3560003);
        FairQueue y = duel(2, 2);
        due("doubted ones move nobody", y.end(0, 2), 0);
        due("the match ended", y.count(4), 1);
        due("no surprise", y.surprise(0, -1), NONE);
        FairQueue z = twoAgainstTwo(0, 0, 0, 2);
        allAtLevel(z, 3, 6);
        due("one doubted", z.end(0, 2), 4);
        due("moved by the other alone", z.mean(0), 3560003);
        due("surprise by the other alone", z.surprise(0, 0), 500000);
    }

    private static void endOfTeams() {
        FairQueue x = twoAgainstTwo(0, 0, 0, 0);
        allAtLevel(x, 2, 6);
        due("all four", x.end(0, 2), 4);
        dueTable("moved by both", x, 0, 66907, 92224, 117540, 142858, 168173, 193489, 218809);
        due("surprise by both", x.surprise(1, 0), 605000);
        due("one at a level alone stays", x.share(2, 6), 1000000);
        FairQueue y = twoAgainstTwo(0, 0, 0, 0);
        allAtLevel(y, 2, 6);
        y.drop(2);
        due("but the one who dropped", y.end(0, 2), 3);
        dueTable("the team as it was made", y, 0, 66907, 92224, 117540, 142858, 168173, 193489, 218809);
        due("the dropped one has one surprise", y.surprise(2, 1), NONE);
    }

    private static void endAgainstTheTop() {
        for (int result = 0; result <= 2; result++) {
            FairQueue x = duel(0, 0);
            allAtLevel(x, 1, 6);
            due("end", x.end(0, result), 2);
            if (result == 2) {
                dueTable("won", x, 0, 39408, 73891, 108374, 142858, 177339, 211822, 246308);
            } else if (result == 1) {
                dueTable("drawn", x, 0, 56437, 97768, 131584, 157887, 176673, 187945, 191706);
            } else {
                dueTable("lost", x, 0, 185113, 171025, 156941, 142858, 128772, 114688, 100603);
            }
        }
    }

    private static void promise19() {
        FairQueue x = twoAgainstTwo(0, 0, 0, 0);
        due("drop(4)", x.drop(4), BEYOND);
        due("drop(-1)", x.drop(-1), BEYOND);
        x.player(0);
        due("drop of one in no match", x.drop(4), NONE);
        due("drop", x.drop(0), 0);
        dueTable("at once", x, 0, 202859, 182856, 162856, 142858, 122857, 102857, 82857);
        dueTable("the other stays", x, 2, EVEN);
        due("its surprise", x.surprise(0, 0), -500000);
        due("dropped already", x.drop(0), NONE);
        due("it may wait again", x.wait(0, 4, -1), 1);
        due("drop of one who waits", x.drop(0), NONE);
        due("the last one", x.drop(1), 1);
        due("no match goes on", x.count(3), 0);
        due("one ended", x.count(4), 1);
        // Both losers' tables moved ahead of the end: 539200 is the chance against them.
        due("the others won", x.surprise(2, 0), 460800);
        dueTable("by tables as they were ahead of the end", x, 3, 87219, 105765, 124311, 142858, 161402, 179948, 198497);
        due("who dropped lost once", x.surprise(0, 1), NONE);
        due("who dropped last lost once", x.surprise(1, 1), NONE);
        due("its table moved once", x.mean(1), 2439997);
        dropEndsADuel();
        dropOutOfTheSecondTeam();
        dropOfNewAndAgainstDoubted();
        dropAndPlayElsewhere();
    }

    private static void dropEndsADuel() {
        FairQueue x = duel(0, 0);
        due("drop of the first", x.drop(0), 1);
        due("it lost", x.mean(0), 2439997);
        due("the other won", x.mean(1), 3519291);
        FairQueue y = duel(0, 0);
        due("drop of the second", y.drop(1), 1);
        due("it lost", y.mean(1), 2439997);
        due("the first won", y.mean(0), 3519291);
        due("the match ended", y.match(0, 0), NONE);
    }

    private static void dropOutOfTheSecondTeam() {
        FairQueue x = twoAgainstTwo(0, 0, 0, 0);
        due("one of each team", x.drop(0) + x.drop(2), 0);
        due("both dropped", x.match(0, 2), 0b0101);
        due("the last of the second", x.drop(3), 1);
        due("who dropped ahead of it moved once", x.surprise(0, 1), NONE);
        due("who stayed has one result", x.surprise(1, 1), NONE);
        due("a match that ended", x.count(4), 1);
    }

    private static void dropOfNewAndAgainstDoubted() {
        FairQueue x = twoAgainstTwo(1, 0, 2, 2);
        due("drop against doubted ones", x.drop(0), 0);
        dueTable("doesn't move", x, 0, EVEN);
        due("keeps no surprise", x.surprise(0, 0), NONE);
        due("but dropped", x.match(0, 2), 0b0001);
        due("drop of a doubted one", x.drop(2), 0);
        due("moves it", x.mean(2), 2439997);
        FairQueue y = twoAgainstTwo(1, 0, 0, 0);
        y.drop(0);
        dueTable("a new one's moves twice", y, 0, 267120, 217039, 172158, 132472, 97975, 68673, 44563);
    }

    private static void dropAndPlayElsewhere() {
        FairQueue x = withPlayers(0, 0, 0, 0, 0, 0, 0);
        x.bounds(10000000, 0, 10000000);
        x.wait(0, 1, -1);
        x.wait(2, 3, -1);
        x.tick();
        x.drop(0);
        x.wait(0, 4, -1);
        x.wait(5, 6, -1);
        due("a match elsewhere", x.tick(), 1);
        due("with the one who dropped", x.match(1, 0), 0b0010001);
        due("drops out of the second", x.drop(0), 0);
        due("the second's", x.match(1, 2), 0b0000001);
        due("the first's", x.match(0, 2), 0b0000001);
        due("in none any more", x.drop(0), NONE);
        due("two surprises", x.surprise(0, 2), NONE);
        due("may wait once more", x.wait(0, -1, -1), 1);
    }

    private static void promise20() {
        FairQueue x = duel(0, 0);
        due("none yet", x.surprise(0, 0), NONE);
        due("no sum yet", x.surprise(0, -1), NONE);
        due("surprise(2, 0)", x.surprise(2, 0), BEYOND);
        due("surprise(-1, 0)", x.surprise(-1, 0), BEYOND);
        allAtLevel(x, 0, 6);
        allAtLevel(x, 1, 0);
        x.bounds(10000000, 0, 10000000);
        x.end(0, 0);
        due("of a loss against the odds", x.surprise(0, 0), -920000);
        due("of a win against the odds", x.surprise(1, 0), 920000);
        again(x);
        x.end(0, 1);
        due("of a draw of the stronger", x.surprise(0, 1), -420000);
        due("of a draw of the weaker", x.surprise(1, 1), 420000);
        again(x);
        x.end(0, 2);
        due("of a win by the odds", x.surprise(0, 2), 80000);
        due("of a loss by the odds", x.surprise(1, 2), -80000);
        due("sum", x.surprise(0, -1), -1260000);
        due("no fourth", x.surprise(0, 3), NONE);
        due("surprise(0, -2)", x.surprise(0, -2), NONE);
        due("surprise(0, LEAST)", x.surprise(0, LEAST), NONE);
        due("surprise(0, MOST)", x.surprise(0, MOST), NONE);
        for (int i = 0; i < 5; i++) {
            again(x);
            x.end(0, 2);
        }
        due("the first of eight", x.surprise(0, 0), -920000);
        due("the sum of eight", x.surprise(0, -1), -920000 - 420000 + 6 * 80000);
        again(x);
        x.drop(0);
        due("the first is forgotten", x.surprise(0, 0), -420000);
        due("the latest, of a drop", x.surprise(0, 7), -920000);
        due("never nine", x.surprise(0, 8), NONE);
        due("the sum of the latest eight", x.surprise(0, -1), -420000 + 6 * 80000 - 920000);
    }

    private static void promise21() {
        FairQueue x = duel(0, 0);
        allAtLevel(x, 0, 6);
        allAtLevel(x, 1, 6);
        x.bounds(10000000, 0, 10000000);
        x.limit(2499999);
        for (int i = 0; i < 5; i++) {
            due("four are too few", x.sinking(), 0);
            x.end(0, 0);
            if (i < 4) {
                again(x);
            }
        }
        due("five losses at even odds", x.surprise(0, -1), -2500000);
        due("sinking", x.sinking(), 0b01);
        x.limit(2500000);
        due("just at the limit", x.sinking(), 0);
        x.limit(0);
        due("below nothing", x.sinking(), 0b01);
        FairQueue y = duel(0, 0);
        allAtLevel(y, 0, 6);
        allAtLevel(y, 1, 6);
        y.limit(0);
        for (int i = 0; i < 5; i++) {
            y.end(0, i == 0 ? 2 : 1);
            again(y);
        }
        due("the second sinks", y.sinking(), 0b10);
    }

    private static void promise22() {
        FairQueue x = new FairQueue();
        due("limit at first", x.limit(8000000), 1500000);
        due("limit at most", x.limit(0), 8000000);
        due("limit of nothing", x.limit(7), 0);
        due("limit above", x.limit(8000001), BEYOND);
        due("limit below", x.limit(-1), BEYOND);
        due("limit LEAST", x.limit(LEAST), BEYOND);
        due("limit stays", x.limit(1), 7);
    }

    private static void promise23() {
        FairQueue x = new FairQueue();
        for (int i = 0; i < 20; i++) {
            due("tell", x.tell(i % 2 == 0 ? LEAST : MOST), i + 1);
        }
        due("tell of one too many", x.tell(0), FULL);
        due("twenty wait", x.count(5), 20);
        x.check();
        due("none waits", x.count(5), 0);
        due("tell again", x.tell(0), 1);
    }

    private static void promise24() {
        FairQueue x = withPlayers(0, 0, 0, 0);
        x.size(1);
        due("nothing told, nothing made", x.check(), 0);
        x.tell(0);
        due("one told, nothing made", x.check(), 99);
        for (int i = 0; i < 4; i++) {
            x.wait(i, -1, -1);
        }
        due("nothing told of two", x.check(), 1);
        checkDue(x, "both", 0, 1, 2, 4, 8);
        checkDue(x, "half a match", 1, 1);
        checkDue(x, "the second missing", 2, 1, 2);
        checkDue(x, "the second not whole", 2, 1, 2, 4);
        checkDue(x, "a wrong first team", 1, 2, 2, 4, 8);
        checkDue(x, "a wrong second team", 1, 1, 4, 4, 8);
        checkDue(x, "the teams the other way round", 1, 2, 1, 4, 8);
        checkDue(x, "the second wrong", 2, 1, 2, 8, 4);
        checkDue(x, "one number more", 99, 1, 2, 4, 8, 0);
        checkDue(x, "a match more", 99, 1, 2, 4, 8, 1, 2);
        checkDue(x, "more, but the first is wrong", 1, 1, 3, 4, 8, 1, 2);
        due("nothing is made", x.count(3), 0);
        due("all wait", x.count(2), 4);
        due("the tick stands", x.count(1), 0);
        due("what the tick makes", x.tick(), 2);
        due("teams are of players", x.match(1, 1), 8);
        checkWhereFiveGoOn();
        checkByTimeWaited();
    }

    private static void checkByTimeWaited() {
        FairQueue x = withPlayers(0, 0);
        x.size(1);
        x.shift(0, 0, 1, 100000);
        x.bounds(0, 100000, 100000);
        x.tick();
        x.wait(0, -1, -1);
        x.wait(1, -1, -1);
        checkDue(x, "one that the bounds don't reach yet", 99, 1, 2);
        due("no match is made", x.tick(), 0);
        checkDue(x, "one that the bounds reach", 0, 1, 2);
        due("a match is made", x.tick(), 1);
    }

    private static void checkDue(FairQueue x, String what, long want, int... numbers) {
        for (int number : numbers) {
            x.tell(number);
        }
        due("check of " + what, x.check(), want);
        due("none waits behind check of " + what, x.count(5), 0);
    }

    private static void checkWhereFiveGoOn() {
        FairQueue x = withPlayers(0, 0, 0, 0, 0, 0, 0, 0, 0, 0, 0, 0);
        x.size(1);
        for (int i = 0; i < 10; i++) {
            x.wait(i, -1, -1);
        }
        checkDue(x, "five", 0, 1, 2, 4, 8, 16, 32, 64, 128, 256, 512);
        due("five", x.tick(), 5);
        x.wait(10, -1, -1);
        x.wait(11, -1, -1);
        checkDue(x, "none where five go on", 0);
        checkDue(x, "a sixth", 99, 1024, 2048);
        x.end(4, 0);
        checkDue(x, "one where four go on", 0, 1024, 2048);
    }

    private static void promise25() {
        FairQueue x = withPlayers(0, 1, 2, 0, 0);
        due("players", x.count(0), 5);
        x.size(1);
        x.wait(0, -1, -1);
        x.wait(1, -1, -1);
        x.wait(2, -1, -1);
        due("parties", x.count(2), 3);
        x.tick();
        x.tick();
        due("the tick", x.count(1), 2);
        due("one party", x.count(2), 1);
        due("one match", x.count(3), 1);
        due("none ended", x.count(4), 0);
        x.end(0, 1);
        due("none goes on", x.count(3), 0);
        due("one ended", x.count(4), 1);
        x.tell(5);
        due("numbers", x.count(5), 1);
        due("T", x.count(6), 1);
        due("count(7)", x.count(7), BEYOND);
        due("count(-1)", x.count(-1), BEYOND);
        due("count(LEAST)", x.count(LEAST), BEYOND);
        due("count(MOST)", x.count(MOST), BEYOND);
    }

    private static void promise26() {
        FairQueue x = withPlayers(0, 0);
        x.player(9);
        x.mean(9);
        due("two BEYOND", x.found(1), 2);
        due("found(0)", x.found(0), BEYOND);
        due("found(6)", x.found(6), BEYOND);
        due("found(-1)", x.found(-1), BEYOND);
        due("found(MOST)", x.found(MOST), BEYOND);
        due("counted, too", x.found(1), 6);
        x.leave(0);
        due("a NONE", x.found(2), 1);
        x.wait(0, -1, -1);
        x.wait(0, -1, -1);
        x.size(1);
        due("two STATE", x.found(3), 2);
        for (int i = 0; i < 23; i++) {
            x.tell(i);
        }
        due("three FULL", x.found(4), 3);
        x.as(0, 2);
        due("a KIND", x.found(5), 1);
        due("BEYOND stays", x.found(1), 6);
    }

    public static void main(String[] args) {
        promise1();
        promise2();
        promise3();
        promise4();
        promise5();
        promise6();
        promise7();
        promise8();
        promise9();
        promise10();
        promise11();
        promise12();
        promise13();
        promise14();
        promise15();
        promise16();
        promise17();
        promise18();
        promise19();
        promise20();
        promise21();
        promise22();
        promise23();
        promise24();
        promise25();
        promise26();
        System.out.println(wrong == 0 ? "all promises hold" : wrong + " answers are not as due");
        if (wrong != 0) {
            System.exit(1);
        }
    }
}
