/** The edges of promises 10 to 16: the calls on the queue. Each test is named by its promise. */
public final class EdgesOfTheQueue {
    private static final int[] NO_BOUNDS = {-1, 10000001, Edges.LEAST, Edges.MOST};

    public static void main(String[] args) throws Exception {
        Edges.run(EdgesOfTheQueue.class);
    }

    /** Teams of three; 0, 1 and 2 are a party, 3 .. 8 are idle. */
    private static FairQueue threeWait() {
        FairQueue x = Edges.manyPlayers(9, 3);
        x.wait(0, 1, 2);
        return x;
    }

    /** Teams of three; 0, 1 and 2 play 3, 4 and 5; 6, 7 and 8 are idle. */
    private static FairQueue sixPlay() {
        FairQueue x = threeWait();
        x.wait(3, 4, 5);
        Edges.due("setup: tick", x.tick(), 1);
        return x;
    }

    /** Teams of one; 0 .. 9 play by twos, 10 .. 13 wait, all as strong as another. */
    private static FairQueue fiveGoOn() {
        FairQueue x = Edges.manyPlayers(14, 1);
        Edges.waitAlone(x, 0, 9);
        Edges.due("setup: five", x.tick(), 5);
        Edges.waitAlone(x, 10, 13);
        return x;
    }

    /** Teams of one; 0 and 1 wait, 0's MEAN being the greater by v (at most 142857). */
    private static FairQueue twoWait(int v) {
        FairQueue x = Edges.manyPlayers(2, 1);
        x.shift(0, 0, 1, v);
        Edges.waitAlone(x, 0, 1);
        return x;
    }

    // ---- promise 10

    @Says({"T: what it was", "Team size T (1 .. 3; 2 at first)"})
    static void promise10_leastAndGreatest() {
        FairQueue x = new FairQueue();
        Edges.due("size(1)", x.size(1), 2);
        Edges.due("T", x.count(6), 1);
        Edges.due("size(3)", x.size(3), 1);
        Edges.due("T", x.count(6), 3);
        Edges.due("size(3) again", x.size(3), 3);
        Edges.due("size(2)", x.size(2), 3);
        Edges.due("T", x.count(6), 2);
    }

    @Says("BEYOND")
    static void promise10_beyondBelowAndAbove() {
        for (int t : new int[] {0, 4, -1, -2, 5, 257, 65537, Edges.LEAST, Edges.MOST}) {
            Edges.refused("size(" + t + ")", FairQueue::new, x -> x.size(t), Edges.BEYOND);
            Edges.refused("size(" + t + ") with players", () -> Edges.manyPlayers(4, 3), x -> x.size(t), Edges.BEYOND);
        }
    }

    @Says("STATE: a MATCH goes on, or a PARTY waits")
    static void promise10_stateAMatchGoesOn() {
        for (int t = 1; t <= 3; t++) {
            int size = t;
            Edges.refused("size(" + t + ")", () -> Edges.duel(0, 0), x -> x.size(size), Edges.STATE);
        }
        FairQueue x = Edges.duel(0, 0);
        x.drop(1);
        Edges.due("behind a drop that ended it", x.size(2), 1);
        FairQueue y = Edges.duel(0, 0);
        y.end(0, 0);
        Edges.due("behind its end", y.size(2), 1);
    }

    @Says("STATE: a MATCH goes on, or a PARTY waits")
    static void promise10_stateAPartyWaits() {
        for (int t = 1; t <= 3; t++) {
            int size = t;
            Edges.refused("size(" + t + ")", Edges::few, x -> x.size(size), Edges.STATE);
        }
        Edges.refused("both", Edges::busy, x -> x.size(2), Edges.STATE);
        FairQueue x = Edges.few();
        x.leave(1);
        Edges.due("when it left", x.size(2), 1);
    }

    @Says("in the order in which they are asked")
    static void promise10_beyondAheadOfState() {
        Edges.refused("size(0) while one waits", Edges::few, x -> x.size(0), Edges.BEYOND);
        Edges.refused("size(4) in a match", () -> Edges.duel(0, 0), x -> x.size(4), Edges.BEYOND);
    }

    // ---- promise 11

    @Says({"BASE, STEP, TOP: 1", "(each 0 .. 10000000;"})
    static void promise11_leastAndGreatest() {
        FairQueue x = Edges.withPlayers(0);
        x.wait(0, -1, -1);
        x.tick();
        Edges.due("all 0", x.bounds(0, 0, 0), 1);
        Edges.due("BOUND", x.waited(0, true), 0);
        Edges.due("the greatest TOP", x.bounds(0, 0, 10000000), 1);
        Edges.due("BOUND", x.waited(0, true), 0);
        Edges.due("the greatest BASE", x.bounds(10000000, 0, 10000000), 1);
        Edges.due("BOUND", x.waited(0, true), 10000000);
        Edges.due("the greatest STEP", x.bounds(0, 10000000, 10000000), 1);
        Edges.due("BOUND", x.waited(0, true), 10000000);
        Edges.due("all the greatest", x.bounds(10000000, 10000000, 10000000), 1);
        Edges.due("BOUND", x.waited(0, true), 10000000);
    }

    @Says("BEYOND: one isn't as told")
    static void promise11_beyondBaseBelowAndAbove() {
        for (int v : NO_BOUNDS) {
            Edges.refused("BASE " + v, Edges::few, x -> x.bounds(v, 5, 6), Edges.BEYOND);
        }
    }

    @Says("BEYOND: one isn't as told")
    static void promise11_beyondStepBelowAndAbove() {
        for (int v : NO_BOUNDS) {
            Edges.refused("STEP " + v, Edges::few, x -> x.bounds(4, v, 6), Edges.BEYOND);
        }
    }

    @Says("BEYOND: one isn't as told")
    static void promise11_beyondTopBelowAndAbove() {
        for (int v : NO_BOUNDS) {
            Edges.refused("TOP " + v, Edges::few, x -> x.bounds(4, 5, v), Edges.BEYOND);
            Edges.refused("all " + v, Edges::few, x -> x.bounds(v, v, v), Edges.BEYOND);
        }
    }

    @Says("BOUND of a PARTY at a TICK: BASE and STEP times the TICKS that it waited, at most TOP")
    static void promise11_goesForThoseThatWaitAlready() {
        FairQueue x = Edges.few();
        Edges.due("BASE and a STEP", x.waited(1, true), 3);
        x.bounds(10, 20, 1000);
        Edges.due("others", x.waited(1, true), 30);
        x.bounds(10, 20, 29);
        Edges.due("TOP below", x.waited(1, true), 29);
        x.bounds(10, 20, 30);
        Edges.due("TOP just so", x.waited(1, true), 30);
        x.bounds(10, 20, 9);
        Edges.due("TOP below BASE", x.waited(1, true), 9);
        x.bounds(10, 20, 0);
        Edges.due("TOP of nothing", x.waited(1, true), 0);
    }

    // ---- promise 12

    @Says({"A PARTY waits, of a, b, c (-1: none; a is one): how many wait", "A PARTY of 1 to 3 players WAITS"})
    static void promise12_oneTwoAndThree() {
        FairQueue x = Edges.manyPlayers(6, 3);
        Edges.due("one", x.wait(5, -1, -1), 1);
        Edges.due("two", x.wait(4, 0, -1), 2);
        Edges.due("three", x.wait(3, 2, 1), 3);
        for (int p = 0; p < 6; p++) {
            Edges.due(p + " waits", x.waited(p, false), 0);
        }
    }

    @Says("BEYOND: there is no such player (either)")
    static void promise12_beyondNoSuchFirst() {
        Edges.noSuchPlayer("wait", (x, p) -> x.wait(p, -1, -1));
        Edges.noSuchPlayer("wait with 0", (x, p) -> x.wait(p, 0, -1));
    }

    @Says("BEYOND: there is no such player (either)")
    static void promise12_beyondNoSuchSecondOrThird() {
        for (int p : new int[] {-2, -3, -32, 9, 15, 16, 32, 35, 256, 65539, Edges.LEAST, Edges.MOST}) {
            Edges.refused("b " + p, EdgesOfTheQueue::threeWait, x -> x.wait(3, p, -1), Edges.BEYOND);
            Edges.refused("b " + p + ", c 4", EdgesOfTheQueue::threeWait, x -> x.wait(3, p, 4), Edges.BEYOND);
            Edges.refused("c " + p, EdgesOfTheQueue::threeWait, x -> x.wait(3, 4, p), Edges.BEYOND);
        }
    }

    @Says("(-1: none; a is one)")
    static void promise12_beyondNoFirst() {
        Edges.refused("nobody", EdgesOfTheQueue::threeWait, x -> x.wait(-1, -1, -1), Edges.BEYOND);
        Edges.refused("b alone", EdgesOfTheQueue::threeWait, x -> x.wait(-1, 3, -1), Edges.BEYOND);
        Edges.refused("c alone", EdgesOfTheQueue::threeWait, x -> x.wait(-1, -1, 3), Edges.BEYOND);
        Edges.refused("b and c", EdgesOfTheQueue::threeWait, x -> x.wait(-1, 3, 4), Edges.BEYOND);
    }

    @Says("two are the same")
    static void promise12_beyondTwoAreTheSame() {
        int[][] parties = {{3, 3, -1}, {3, 3, 4}, {3, 4, 3}, {3, 4, 4}, {3, 3, 3}};
        for (int[] p : parties) {
            Edges.refused("wait(" + p[0] + ", " + p[1] + ", " + p[2] + ")", EdgesOfTheQueue::threeWait,
                    x -> x.wait(p[0], p[1], p[2]), Edges.BEYOND);
        }
    }

    @Says("or b is -1 and c isn't")
    static void promise12_beyondThirdWithoutSecond() {
        for (int c : new int[] {4, 3, 8, 9, -2, Edges.LEAST, Edges.MOST}) {
            Edges.refused("wait(3, -1, " + c + ")", EdgesOfTheQueue::threeWait, x -> x.wait(3, -1, c), Edges.BEYOND);
        }
    }

    @Says("KIND: it is above T")
    static void promise12_kindAboveT() {
        Edges.refused("two for teams of one", () -> Edges.manyPlayers(6, 1), x -> x.wait(3, 4, -1), Edges.KIND);
        Edges.refused("three for teams of one", () -> Edges.manyPlayers(6, 1), x -> x.wait(3, 4, 5), Edges.KIND);
        Edges.refused("three for teams of two", () -> Edges.manyPlayers(6, 2), x -> x.wait(3, 4, 5), Edges.KIND);
        Edges.due("one for teams of one", Edges.manyPlayers(6, 1).wait(3, -1, -1), 1);
        Edges.due("two for teams of two", Edges.manyPlayers(6, 2).wait(3, 4, -1), 1);
        Edges.due("three for teams of three", Edges.manyPlayers(6, 3).wait(3, 4, 5), 1);
    }

    @Says({"STATE: one waits already, or is in a MATCH", "nobody in two, or in a match that goes on"})
    static void promise12_stateOneWaits() {
        for (int p = 0; p <= 2; p++) {
            int one = p;
            Edges.refused(p + " alone", EdgesOfTheQueue::threeWait, x -> x.wait(one, -1, -1), Edges.STATE);
            Edges.refused(p + " first", EdgesOfTheQueue::threeWait, x -> x.wait(one, 3, 4), Edges.STATE);
            Edges.refused(p + " second", EdgesOfTheQueue::threeWait, x -> x.wait(3, one, 4), Edges.STATE);
            Edges.refused(p + " third", EdgesOfTheQueue::threeWait, x -> x.wait(3, 4, one), Edges.STATE);
        }
        Edges.refused("the same party", EdgesOfTheQueue::threeWait, x -> x.wait(0, 1, 2), Edges.STATE);
    }

    @Says({"STATE: one waits already, or is in a MATCH", "nobody in two, or in a match that goes on"})
    static void promise12_stateOneIsInAMatch() {
        for (int p = 0; p <= 5; p++) {
            int one = p;
            Edges.refused(p + " alone", EdgesOfTheQueue::sixPlay, x -> x.wait(one, -1, -1), Edges.STATE);
            Edges.refused(p + " second", EdgesOfTheQueue::sixPlay, x -> x.wait(6, one, 7), Edges.STATE);
            Edges.refused(p + " third", EdgesOfTheQueue::sixPlay, x -> x.wait(6, 7, one), Edges.STATE);
        }
        FairQueue x = sixPlay();
        x.end(0, 1);
        Edges.due("behind the match", x.wait(0, 3, 6), 1);
    }

    @Says("it may wait again")
    static void promise12_whoDroppedMayWait() {
        FairQueue x = sixPlay();
        x.drop(1);
        Edges.due("who dropped", x.wait(6, 7, 1), 1);
        Edges.due("the match goes on", x.count(3), 1);
        Edges.due("not twice", x.wait(1, -1, -1), Edges.STATE);
        Edges.due("not who plays on", x.wait(0, -1, -1), Edges.STATE);
    }

    @Says({"FULL", "(at most 10 PARTIES;"})
    static void promise12_fullAtTheEleventh() {
        Edges.refused("one more", Edges::busy, x -> x.wait(14, -1, -1), Edges.FULL);
        Edges.refused("two more", Edges::busy, x -> x.wait(14, 15, -1), Edges.FULL);
        Edges.refused("who dropped", Edges::busy, x -> x.wait(0, -1, -1), Edges.FULL);
        FairQueue x = Edges.manyPlayers(16, 3);
        x.wait(13, 14, 15);
        Edges.waitAlone(x, 0, 7);
        Edges.due("a tenth", x.wait(8, 9, -1), 10);
        Edges.due("an eleventh", x.wait(10, -1, -1), Edges.FULL);
        Edges.due("nine", x.leave(0), 9);
        Edges.due("a tenth again", x.wait(0, 10, 11), 10);
        Edges.due("an eleventh again", x.wait(12, -1, -1), Edges.FULL);
    }

    @Says("Each act tells its findings in the order in which they are asked")
    static void promise12_beyondComesFirst() {
        Edges.refused("ahead of KIND: no third", Edges::busy, x -> x.wait(14, 15, 16), Edges.BEYOND);
        Edges.refused("ahead of KIND: two the same", Edges::busy, x -> x.wait(14, 15, 14), Edges.BEYOND);
        Edges.refused("ahead of KIND: T is 1", Edges::few, x -> x.wait(0, 0, -1), Edges.BEYOND);
        Edges.refused("ahead of STATE: one waits", Edges::busy, x -> x.wait(4, 4, -1), Edges.BEYOND);
        Edges.refused("ahead of STATE: one plays", Edges::busy, x -> x.wait(1, -1, 14), Edges.BEYOND);
        Edges.refused("ahead of FULL", Edges::busy, x -> x.wait(16, -1, -1), Edges.BEYOND);
    }

    @Says("Each act tells its findings in the order in which they are asked")
    static void promise12_kindAheadOfStateAndFull() {
        Edges.refused("one waits", Edges::few, x -> x.wait(1, 0, -1), Edges.KIND);
        Edges.refused("one waits, full", Edges::busy, x -> x.wait(4, 14, 15), Edges.KIND);
        Edges.refused("one plays, full", Edges::busy, x -> x.wait(14, 15, 1), Edges.KIND);
        Edges.refused("full", Edges::busy, x -> x.wait(14, 15, 0), Edges.KIND);
    }

    @Says("Each act tells its findings in the order in which they are asked")
    static void promise12_stateAheadOfFull() {
        Edges.refused("one waits", Edges::busy, x -> x.wait(13, -1, -1), Edges.STATE);
        Edges.refused("one plays", Edges::busy, x -> x.wait(14, 1, -1), Edges.STATE);
    }

    // ---- promise 13

    @Says("The PARTY of a player waits no more: how many wait")
    static void promise13_byEachOfAParty() {
        for (int p = 0; p <= 2; p++) {
            FairQueue x = threeWait();
            x.wait(3, -1, -1);
            Edges.due("leave(" + p + ")", x.leave(p), 1);
            for (int q = 0; q <= 2; q++) {
                Edges.due(q + " waits no more", x.waited(q, false), Edges.NONE);
            }
            Edges.due("the other party waits", x.waited(3, false), 0);
            Edges.due("the last leaves", x.leave(3), 0);
            Edges.due("nobody waits", x.count(2), 0);
        }
    }

    @Says("The PARTY of a player waits no more: how many wait")
    static void promise13_theOthersKeepTheirOrderAndTime() {
        FairQueue x = Edges.manyPlayers(10, 1);
        x.bounds(0, 0, 0);
        for (int p = 9; p >= 0; p--) {
            x.shift(p, 0, 1, 10 * p + 1);
            x.wait(p, -1, -1);
            x.tick();
        }
        Edges.due("the first of ten", x.leave(9), 9);
        Edges.due("the last of nine", x.leave(0), 8);
        Edges.due("one between", x.leave(5), 7);
        Edges.due("time of the first", x.waited(8, false), 9);
        Edges.due("time of one between", x.waited(4, false), 5);
        Edges.due("time of the last", x.waited(1, false), 2);
        x.bounds(10000000, 0, 10000000);
        Edges.due("three matches", x.tick(), 3);
        Edges.due("the first that waits is the first to play", x.match(0, 0), 1 << 8);
        Edges.due("with the nearest", x.match(0, 1), 1 << 7);
        Edges.due("then the next", x.match(1, 0), 1 << 6);
        Edges.due("with the nearest", x.match(1, 1), 1 << 4);
        Edges.due("then the next", x.match(2, 0), 1 << 3);
        Edges.due("1 is over", x.waited(1, false), 3);
    }

    @Says("BEYOND")
    static void promise13_beyondNoSuchPlayer() {
        Edges.noSuchPlayer("leave", (x, p) -> x.leave(p));
    }

    @Says("NONE: it doesn't wait")
    static void promise13_noneDoesntWait() {
        Edges.refused("who never waited", Edges::busy, x -> x.leave(14), Edges.NONE);
        Edges.refused("who plays", Edges::busy, x -> x.leave(1), Edges.NONE);
        Edges.refused("who dropped", Edges::busy, x -> x.leave(0), Edges.NONE);
        Edges.refused("where nobody waits", () -> Edges.duel(0, 0), x -> x.leave(0), Edges.NONE);
        FairQueue x = Edges.few();
        x.leave(1);
        Edges.due("who left already", x.leave(1), Edges.NONE);
    }

    // ---- promise 14

    @Says({"How many TICKS the PARTY of a player waited (bound: its BOUND)", "since the TICK in which it came"})
    static void promise14_fromTheTickInWhichItCame() {
        FairQueue x = Edges.manyPlayers(4, 3);
        Edges.ticks(x, 3);
        x.wait(0, 1, -1);
        Edges.due("at once", x.waited(0, false), 0);
        Edges.due("at once, its BOUND", x.waited(0, true), 300000);
        x.tick();
        x.wait(2, -1, -1);
        Edges.due("one TICK", x.waited(1, false), 1);
        Edges.due("one TICK, its BOUND", x.waited(1, true), 400000);
        Edges.due("who came later", x.waited(2, false), 0);
        x.leave(0);
        x.tick();
        x.wait(1, 0, -1);
        Edges.due("who came again", x.waited(0, false), 0);
        Edges.due("who stayed", x.waited(2, false), 1);
    }

    @Says("at most TOP")
    static void promise14_boundStaysAtTop() {
        FairQueue x = Edges.withPlayers(0);
        x.bounds(2, 3, 7);
        x.wait(0, -1, -1);
        long[] bounds = {2, 5, 7, 7, 7};
        for (long bound : bounds) {
            Edges.due("BOUND", x.waited(0, true), bound);
            x.tick();
        }
        Edges.due("it waits on", x.waited(0, false), 5);
    }

    /** 215 times 10000000 is above what an int holds, 430 times that goes round it once. */
    @Says({"BASE and STEP times the TICKS that it waited, at most TOP", "(each 0 .. 10000000;"})
    static void promise14_greatestStepDoesNotWrapRound() {
        FairQueue x = Edges.withPlayers(0);
        x.bounds(10000000, 10000000, 10000000);
        x.wait(0, -1, -1);
        Edges.ticks(x, 213);
        for (int i = 213; i <= 216; i++) {
            Edges.due("BOUND behind " + i, x.waited(0, true), 10000000);
            x.tick();
        }
        Edges.ticks(x, 428 - 217);
        for (int i = 428; i <= 432; i++) {
            Edges.due("BOUND behind " + i, x.waited(0, true), 10000000);
            x.tick();
        }
        Edges.due("TICKS", x.waited(0, false), 433);
    }

    @Says("BEYOND")
    static void promise14_beyondNoSuchPlayer() {
        Edges.noSuchPlayer("waited", (x, p) -> x.waited(p, false));
        Edges.noSuchPlayer("its bound", (x, p) -> x.waited(p, true));
    }

    @Says("NONE")
    static void promise14_noneDoesntWait() {
        for (int p : new int[] {14, 1, 0}) {
            Edges.refused("waited(" + p + ", false)", Edges::busy, x -> x.waited(p, false), Edges.NONE);
            Edges.refused("waited(" + p + ", true)", Edges::busy, x -> x.waited(p, true), Edges.NONE);
        }
        FairQueue x = Edges.few();
        x.leave(1);
        Edges.due("who left", x.waited(1, false), Edges.NONE);
        Edges.due("who left, its BOUND", x.waited(1, true), Edges.NONE);
    }

    // ---- promise 15

    @Says({"what 0 UNEVEN, 1 its first TEAM's players as bits, 2 the second's", "if that is within its BOUND"})
    static void promise15_justWithinTheBound() {
        FairQueue x = twoWait(100);
        x.bounds(100, 0, 10000000);
        Edges.due("just so, UNEVEN", x.pairing(0, 0), 100);
        Edges.due("first", x.pairing(0, 1), 1);
        Edges.due("second", x.pairing(0, 2), 2);
        Edges.due("the other's", x.pairing(1, 0), 100);
        Edges.due("its first", x.pairing(1, 1), 2);
        Edges.due("its second", x.pairing(1, 2), 1);
    }

    @Says({"NONE: it doesn't wait, or has none", "if that is within its BOUND"})
    static void promise15_noneJustAboveTheBound() {
        for (int what = 0; what <= 2; what++) {
            int w = what;
            Edges.refused("above BASE, what " + w, () -> {
                FairQueue x = twoWait(100);
                x.bounds(99, 0, 10000000);
                return x;
            }, x -> x.pairing(0, w), Edges.NONE);
            Edges.refused("above TOP, what " + w, () -> {
                FairQueue x = twoWait(100);
                x.bounds(10000000, 10000000, 99);
                return x;
            }, x -> x.pairing(1, w), Edges.NONE);
            Edges.refused("above a BOUND of 0, what " + w, () -> {
                FairQueue x = twoWait(1);
                x.bounds(0, 0, 0);
                return x;
            }, x -> x.pairing(0, w), Edges.NONE);
        }
        FairQueue x = twoWait(0);
        x.bounds(0, 0, 0);
        Edges.due("0 is within a BOUND of 0", x.pairing(0, 0), 0);
    }

    @Says({"if that is within its BOUND", "UNEVEN: the size of the difference of both TEAMS' MEANS, all players' together"})
    static void promise15_theGreatestBound() {
        FairQueue x = Edges.manyPlayers(4, 2);
        x.bounds(10000000, 0, 10000000);
        Edges.allAtLevel(x, 0, 6);
        Edges.allAtLevel(x, 1, 6);
        Edges.allAtLevel(x, 2, 0);
        Edges.allAtLevel(x, 3, 2);
        x.wait(0, 1, -1);
        x.wait(2, 3, -1);
        Edges.due("just the greatest BOUND", x.pairing(0, 0), 10000000);
        Edges.due("the size of it", x.pairing(2, 0), 10000000);
        x.shift(3, 2, 1, 1);
        Edges.due("one above it", x.pairing(0, 0), Edges.NONE);
        Edges.due("one above it, the other way", x.pairing(2, 0), Edges.NONE);
    }

    @Says("if that is within its BOUND")
    static void promise15_itsOwnBoundAlone() {
        FairQueue x = Edges.manyPlayers(2, 1);
        x.bounds(0, 1, 10000000);
        x.shift(1, 0, 1, 2);
        x.wait(0, -1, -1);
        Edges.ticks(x, 2);
        x.wait(1, -1, -1);
        Edges.due("who waited two", x.pairing(0, 0), 2);
        Edges.due("who came now", x.pairing(1, 0), Edges.NONE);
        x.tick();
        Edges.due("the match is made by the first's", x.match(0, 0), 1);
    }

    @Says("BEYOND: there is no such player, or another what")
    static void promise15_beyondAnotherWhat() {
        for (int what : new int[] {-1, 3, 4, 256, 65536, Edges.LEAST, Edges.MOST}) {
            Edges.refused("pairing(4, " + what + ")", Edges::busy, x -> x.pairing(4, what), Edges.BEYOND);
        }
    }

    @Says("BEYOND: there is no such player, or another what")
    static void promise15_beyondNoSuchPlayer() {
        for (int what = 0; what <= 2; what++) {
            int w = what;
            Edges.noSuchPlayer("pairing, what " + w, (x, p) -> x.pairing(p, w));
        }
    }

    @Says("in the order in which they are asked")
    static void promise15_beyondAheadOfNone() {
        Edges.refused("who doesn't wait", Edges::busy, x -> x.pairing(14, 3), Edges.BEYOND);
        Edges.refused("who has none", Edges::few, x -> x.pairing(1, -1), Edges.BEYOND);
    }

    @Says("NONE: it doesn't wait, or has none")
    static void promise15_noneDoesntWait() {
        for (int what = 0; what <= 2; what++) {
            int w = what;
            Edges.refused("idle", Edges::busy, x -> x.pairing(14, w), Edges.NONE);
            Edges.refused("plays", Edges::busy, x -> x.pairing(1, w), Edges.NONE);
            Edges.refused("dropped", Edges::busy, x -> x.pairing(0, w), Edges.NONE);
        }
    }

    @Says({"NONE: it doesn't wait, or has none", "two TEAMS of T players each, of whole PARTIES that wait"})
    static void promise15_noneTooFewForTwoTeams() {
        Edges.refused("alone", Edges::few, x -> x.pairing(1, 0), Edges.NONE);
        Edges.refused("a team alone", EdgesOfTheQueue::threeWait, x -> x.pairing(0, 0), Edges.NONE);
        FairQueue x = threeWait();
        x.wait(3, 4, -1);
        Edges.due("three and two", x.pairing(0, 0), Edges.NONE);
        Edges.due("two and three", x.pairing(4, 0), Edges.NONE);
        x.wait(5, -1, -1);
        Edges.due("three, two and one", x.pairing(0, 0), 0);
    }

    @Says("of whole PARTIES that wait, that PARTY in the first TEAM")
    static void promise15_noneWherePartiesDontFit() {
        FairQueue x = Edges.manyPlayers(9, 3);
        x.wait(0, 1, -1);
        x.wait(2, 3, -1);
        x.wait(4, 5, -1);
        Edges.due("three twos make no three", x.pairing(0, 0), Edges.NONE);
        x.wait(6, -1, -1);
        Edges.due("one team of three, no other", x.pairing(6, 0), Edges.NONE);
        x.wait(7, -1, -1);
        Edges.due("first", x.pairing(4, 1), 0b01110000);
        Edges.due("second", x.pairing(4, 2), 0b10000011);
        Edges.due("first of the last", x.pairing(7, 1), 0b10000011);
    }

    @Says("of whole PARTIES that wait, that PARTY in the first TEAM")
    static void promise15_oneTwoAndThreePartiesToATeam() {
        FairQueue x = Edges.manyPlayers(9, 3);
        x.wait(0, -1, -1);
        x.wait(1, -1, -1);
        x.wait(2, -1, -1);
        x.wait(3, 4, 5);
        Edges.due("three parties", x.pairing(2, 1), 0b000111);
        Edges.due("against one", x.pairing(2, 2), 0b111000);
        Edges.due("one party", x.pairing(4, 1), 0b111000);
        Edges.due("against three", x.pairing(4, 2), 0b000111);
        x.leave(3);
        x.wait(3, 4, -1);
        x.wait(6, 7, -1);
        Edges.due("two parties", x.pairing(7, 1), 0b011000001);
        Edges.due("against two", x.pairing(7, 2), 0b000011010);
    }

    @Says({"THE PAIRING for a PARTY: the least UNEVEN one", "PARTIES by their places in the row of those that wait"})
    static void promise15_theLastOfTen() {
        FairQueue x = Edges.manyPlayers(16, 3);
        Edges.waitAlone(x, 6, 15);
        Edges.due("the first's team", x.pairing(6, 1), 0b0000000111000000);
        Edges.due("against", x.pairing(6, 2), 0b0000111000000000);
        Edges.due("the last's team", x.pairing(15, 1), 0b1000000011000000);
        Edges.due("against", x.pairing(15, 2), 0b0000011100000000);
        // 15 stands two parts higher, 13 and 14 one each: so both are put against it.
        x.shift(15, 0, 1, 2);
        x.shift(14, 0, 1, 1);
        x.shift(13, 0, 1, 1);
        Edges.due("even", x.pairing(15, 0), 0);
        Edges.due("the last with two others", x.pairing(15, 1), 0b1000000011000000);
        Edges.due("against the two that stand higher", x.pairing(15, 2), 0b0110000100000000);
    }

    @Says("of several that whose first TEAM is less as bits (PARTIES by their places in the row of those that wait, "
            + "the one that came first 0)")
    static void promise15_lessFirstTeamByPlacesNotByNumbers() {
        FairQueue x = Edges.manyPlayers(4, 1);
        for (int p : new int[] {2, 3, 0, 1}) {
            x.wait(p, -1, -1);
        }
        Edges.due("the second at the first place", x.pairing(0, 2), 1 << 2);
        Edges.due("the second at the next place", x.pairing(2, 2), 1 << 3);
        FairQueue y = Edges.manyPlayers(5, 2);
        for (int p : new int[] {4, 3, 2, 1, 0}) {
            y.wait(p, -1, -1);
        }
        Edges.due("first with the first place", y.pairing(0, 1), 0b10001);
        Edges.due("second of the next places", y.pairing(0, 2), 0b01100);
    }

    /** Singles that stand 0, 1, 2, 3 higher: with 4, both 1, 2 (bits 6) and 0, 3 (bits 9) make a team even with three. */
    @Says("of several that whose first TEAM is less as bits")
    static void promise15_lessFirstTeamAsANumber() {
        FairQueue x = Edges.manyPlayers(8, 3);
        for (int p = 0; p <= 3; p++) {
            x.shift(p, 0, 1, p);
            x.wait(p, -1, -1);
        }
        x.wait(4, -1, -1);
        x.shift(5, 0, 1, 3);
        x.wait(5, 6, 7);
        Edges.due("UNEVEN", x.pairing(4, 0), 0);
        Edges.due("first", x.pairing(4, 1), 0b00010110);
        Edges.due("second", x.pairing(4, 2), 0b11100000);
    }

    @Says("then the second")
    static void promise15_lessSecondTeamAsANumber() {
        FairQueue x = Edges.manyPlayers(6, 2);
        for (int p = 0; p <= 3; p++) {
            x.shift(p, 0, 1, p);
            x.wait(p, -1, -1);
        }
        x.shift(4, 0, 1, 3);
        x.wait(4, 5, -1);
        Edges.due("UNEVEN", x.pairing(4, 0), 0);
        Edges.due("first", x.pairing(4, 1), 0b110000);
        Edges.due("second", x.pairing(4, 2), 0b000110);
    }

    @Says("the least UNEVEN one")
    static void promise15_lessUnevenAheadOfLessBits() {
        FairQueue x = Edges.manyPlayers(4, 1);
        x.shift(0, 0, 1, 5);
        x.shift(1, 0, 1, 2);
        x.shift(2, 0, 1, 7);
        x.shift(3, 0, 1, 6);
        Edges.waitAlone(x, 0, 3);
        Edges.due("UNEVEN", x.pairing(0, 0), 1);
        Edges.due("the last is nearest", x.pairing(0, 2), 0b1000);
        Edges.due("of two as near the first", x.pairing(3, 2), 0b0001);
    }

    @Says("THE PAIRING for the PARTY of a player")
    static void promise15_whileFiveGoOn() {
        FairQueue x = fiveGoOn();
        Edges.due("UNEVEN", x.pairing(10, 0), 0);
        Edges.due("first", x.pairing(10, 1), 1 << 10);
        Edges.due("second", x.pairing(10, 2), 1 << 11);
    }

    // ---- promise 16

    @Says({"A TICK: how many MATCHES were made", "TICKS go from 0 on", "Behind that the TICK is one more"})
    static void promise16_ofNobody() {
        FairQueue x = new FairQueue();
        Edges.due("TICK", x.count(1), 0);
        for (int i = 1; i <= 20; i++) {
            Edges.due("tick", x.tick(), 0);
            Edges.due("TICK", x.count(1), i);
        }
    }

    @Says("Behind that the TICK is one more")
    static void promise16_theTickOfTheMatchIsTheOneBefore() {
        FairQueue x = Edges.manyPlayers(2, 1);
        Edges.ticks(x, 6);
        Edges.again(x);
        Edges.due("made in", x.match(0, 3), 6);
        Edges.due("TICK", x.count(1), 7);
    }

    @Says({"till no PARTY has a PAIRING", "those PARTIES wait no more"})
    static void promise16_fiveOfTen() {
        FairQueue x = Edges.manyPlayers(10, 1);
        Edges.waitAlone(x, 0, 9);
        Edges.due("tick", x.tick(), 5);
        Edges.due("nobody waits", x.count(2), 0);
        Edges.due("five go on", x.count(3), 5);
        for (int m = 0; m < 5; m++) {
            Edges.due("first", x.match(m, 0), 1L << 2 * m);
            Edges.due("second", x.match(m, 1), 2L << 2 * m);
            Edges.due("waits no more", x.waited(2 * m, false), Edges.NONE);
            Edges.due("nor does the other", x.waited(2 * m + 1, false), Edges.NONE);
        }
    }

    @Says("(at most 5 go on at once; else none is made)")
    static void promise16_noneWhereFiveGoOn() {
        FairQueue x = fiveGoOn();
        Edges.due("tick", x.tick(), 0);
        Edges.due("TICK all the same", x.count(1), 2);
        Edges.due("four wait", x.count(2), 4);
        Edges.due("five go on", x.count(3), 5);
        Edges.due("they waited", x.waited(10, false), 1);
    }

    @Says({"(at most 5 go on at once; else none is made)", "a new one takes the least free number"})
    static void promise16_asManyAsThereIsRoomFor() {
        FairQueue x = fiveGoOn();
        x.end(3, 2);
        Edges.due("one of two", x.tick(), 1);
        Edges.due("at the free number", x.match(3, 0), 1 << 10);
        Edges.due("two wait", x.count(2), 2);
        x.end(4, 2);
        x.end(0, 2);
        Edges.due("the other", x.tick(), 1);
        Edges.due("at the least free number", x.match(0, 0), 1 << 12);
        Edges.due("the other number stays free", x.match(4, 0), Edges.NONE);
    }

    @Says("if that is within its BOUND")
    static void promise16_atTheTickThatReachesIt() {
        FairQueue x = twoWait(52);
        x.bounds(50, 1, 10000000);
        Edges.due("50 is below 52", x.tick(), 0);
        Edges.due("51 is below 52", x.tick(), 0);
        Edges.due("52 is just so", x.tick(), 1);
        Edges.due("made in", x.match(0, 3), 2);
    }

    @Says({"at most TOP", "if that is within its BOUND"})
    static void promise16_neverAboveTop() {
        FairQueue x = twoWait(6);
        x.bounds(0, 10000000, 5);
        for (int i = 0; i < 300; i++) {
            Edges.due("tick", x.tick(), 0);
        }
        x.shift(0, 1, 0, 1);
        Edges.due("just TOP", x.tick(), 1);
    }

    @Says("for the first that has a PAIRING its TEAMS play")
    static void promise16_theFirstThatHasOne() {
        FairQueue x = Edges.manyPlayers(3, 1);
        x.shift(0, 0, 1, 1);
        Edges.waitAlone(x, 0, 2);
        Edges.due("tick", x.tick(), 1);
        // 1 and 2 are nearer to one another, but 0 came first.
        Edges.due("first", x.match(0, 0), 0b001);
        Edges.due("second", x.match(0, 1), 0b010);
        Edges.due("over", x.waited(2, false), 1);
    }

    @Says("for the first that has a PAIRING its TEAMS play")
    static void promise16_oneWithoutIsPassedOver() {
        FairQueue x = Edges.manyPlayers(5, 1);
        Edges.allAtLevel(x, 0, 6);
        Edges.allAtLevel(x, 3, 0);
        Edges.waitAlone(x, 0, 4);
        Edges.due("tick", x.tick(), 1);
        Edges.due("first", x.match(0, 0), 0b00010);
        Edges.due("second", x.match(0, 1), 0b00100);
        Edges.due("three wait on", x.count(2), 3);
        Edges.due("the first still", x.waited(0, false), 1);
    }

    @Says("two TEAMS of T players each, of whole PARTIES that wait")
    static void promise16_tooFewForTwoTeams() {
        FairQueue x = Edges.manyPlayers(6, 3);
        x.wait(0, 1, 2);
        x.wait(3, 4, -1);
        Edges.due("five", x.tick(), 0);
        x.wait(5, -1, -1);
        Edges.due("six", x.tick(), 1);
        Edges.due("first", x.match(0, 0), 0b000111);
        Edges.due("second", x.match(0, 1), 0b111000);
        FairQueue y = Edges.manyPlayers(3, 2);
        y.wait(0, 1, -1);
        y.wait(2, -1, -1);
        Edges.due("two and one", y.tick(), 0);
    }
}
