/** The edges of promises 1 to 9: a new object and the calls on players. Each test is named by its promise. */
public final class EdgesOfPlayers {
    private static final int[] NO_KINDS = {-1, 3, 4, 256, 257, 65536, Edges.LEAST, Edges.MOST};
    private static final int[] NO_LEVELS = {-1, 7, 8, 256, 65536, Edges.LEAST, Edges.MOST};

    public static void main(String[] args) throws Exception {
        Edges.run(EdgesOfPlayers.class);
    }

    // ---- promise 1

    @Says("No players, TICK 0; all as told")
    static void promise1_nobodyAndNothing() {
        FairQueue x = new FairQueue();
        for (int k = 1; k <= 5; k++) {
            Edges.due("found(" + k + ")", x.found(k), 0);
        }
        for (int what = 0; what <= 5; what++) {
            Edges.due("count(" + what + ")", x.count(what), 0);
        }
        Edges.due("season of nobody", x.season(), 0);
        Edges.due("sinking of nobody", x.sinking(), 0);
        Edges.due("check of nothing", x.check(), 0);
        for (int m = 0; m < 5; m++) {
            Edges.due("match(" + m + ", 0)", x.match(m, 0), Edges.NONE);
        }
        Edges.due("tick of nobody", x.tick(), 0);
    }

    @Says("Team size T (1 .. 3; 2 at first)")
    static void promise1_teamsAreOfTwo() {
        FairQueue x = new FairQueue();
        Edges.due("count(6)", x.count(6), 2);
        Edges.due("size(2)", x.size(2), 2);
    }

    @Says("300000, 100000, 3000000 at first")
    static void promise1_boundsAtFirst() {
        FairQueue x = Edges.withPlayers(0);
        x.wait(0, -1, -1);
        Edges.due("BASE", x.waited(0, true), 300000);
        x.tick();
        Edges.due("BASE and STEP", x.waited(0, true), 400000);
        Edges.ticks(x, 25);
        Edges.due("a STEP below TOP", x.waited(0, true), 2900000);
        x.tick();
        Edges.due("just TOP", x.waited(0, true), 3000000);
        x.tick();
        Edges.due("no more than TOP", x.waited(0, true), 3000000);
    }

    @Says("1500000 at first")
    static void promise1_limitAtFirst() {
        Edges.due("limit(3)", new FairQueue().limit(3), 1500000);
    }

    @Says("No players, TICK 0; all as told")
    static void promise1_objectsAreApart() {
        FairQueue x = Edges.busy();
        FairQueue y = new FairQueue();
        x.limit(5);
        Edges.due("no players", y.count(0), 0);
        Edges.due("TICK 0", y.count(1), 0);
        Edges.due("no parties", y.count(2), 0);
        Edges.due("no matches", y.count(3), 0);
        Edges.due("none ended", y.count(4), 0);
        Edges.due("no numbers", y.count(5), 0);
        Edges.due("LIMIT", y.limit(3), 1500000);
        Edges.due("the first player's number", y.player(0), 0);
        Edges.dueTable("a table of its own", y, 0, Edges.EVEN);
    }

    // ---- promise 2

    @Says({"A PLAYER comes: its number", "PLAYERS 0, 1, .. (at most 16)"})
    static void promise2_numbersGoFrom0To15() {
        FairQueue x = new FairQueue();
        for (int i = 0; i < 16; i++) {
            Edges.due("player", x.player(i % 3), i);
            Edges.due("players", x.count(0), i + 1);
        }
    }

    @Says("0 PLAYER, 1 NEW under PLAYER, 2 DOUBTED under PLAYER")
    static void promise2_leastAndGreatestKind() {
        FairQueue x = Edges.withPlayers(0, 1, 2);
        for (int kind = 0; kind <= 2; kind++) {
            Edges.due("what it was", x.become(kind, 0), kind);
        }
    }

    @Says("BEYOND: kind isn't 0 .. 2")
    static void promise2_beyondBelowAndAboveTheKinds() {
        for (int kind : NO_KINDS) {
            Edges.refused("player(" + kind + ")", FairQueue::new, x -> x.player(kind), Edges.BEYOND);
            Edges.refused("player(" + kind + ") as a fourth", Edges::few, x -> x.player(kind), Edges.BEYOND);
        }
    }

    @Says({"FULL", "(at most 16)"})
    static void promise2_fullAtTheSeventeenth() {
        for (int kind = 0; kind <= 2; kind++) {
            int k = kind;
            Edges.refused("a 17th player of kind " + k, Edges::busy, x -> x.player(k), Edges.FULL);
        }
        FairQueue x = Edges.manyPlayers(15, 1);
        Edges.due("the 16th", x.player(2), 15);
        Edges.due("the 17th", x.player(2), Edges.FULL);
        Edges.due("the 18th", x.player(0), Edges.FULL);
        Edges.due("16 players", x.count(0), 16);
        Edges.due("no player 16", x.mean(16), Edges.BEYOND);
    }

    @Says({"BEYOND: kind isn't 0 .. 2", "Each act tells its findings in the order in which they are asked"})
    static void promise2_beyondAheadOfFull() {
        Edges.refused("player(3) where 16 are", Edges::busy, x -> x.player(3), Edges.BEYOND);
        Edges.refused("player(-1) where 16 are", Edges::busy, x -> x.player(-1), Edges.BEYOND);
    }

    @Says("at first 142857 each, LEVEL 3 one more")
    static void promise2_eachComesWithATableOfItsOwn() {
        FairQueue x = Edges.withPlayers(0, 1, 2);
        x.shift(0, 3, 6, 142858);
        Edges.dueTable("of kind 1", x, 1, Edges.EVEN);
        Edges.dueTable("of kind 2", x, 2, Edges.EVEN);
        x.player(0);
        Edges.dueTable("one who comes later", x, 3, Edges.EVEN);
    }

    // ---- promise 3

    @Says("A player is of another kind: what it was")
    static void promise3_fromEachKindToEach() {
        for (int from = 0; from <= 2; from++) {
            for (int to = 0; to <= 2; to++) {
                FairQueue x = Edges.withPlayers(from, 0);
                Edges.due("become(0, " + to + ")", x.become(0, to), from);
                Edges.due("what it is then", x.become(0, from), to);
                Edges.due("the other one stays", x.become(1, 0), 0);
            }
        }
    }

    @Says("A player is of another kind: what it was")
    static void promise3_theLastOf16() {
        FairQueue x = Edges.busy();
        Edges.due("become(15, 2)", x.become(15, 2), 0);
        Edges.due("become(15, 0)", x.become(15, 0), 2);
        Edges.due("one who plays", x.become(1, 1), 0);
        Edges.due("one who waits", x.become(6, 1), 2);
    }

    @Says("BEYOND: there is no such player, or kind")
    static void promise3_beyondNoSuchPlayer() {
        Edges.noSuchPlayer("become", (x, p) -> x.become(p, 1));
    }

    @Says("BEYOND: there is no such player, or kind")
    static void promise3_beyondNoSuchKind() {
        for (int kind : NO_KINDS) {
            Edges.refused("become(1, " + kind + ")", Edges::few, x -> x.become(1, kind), Edges.BEYOND);
            Edges.refused("become(15, " + kind + ")", Edges::busy, x -> x.become(15, kind), Edges.BEYOND);
        }
        Edges.refused("become(9, 9)", Edges::few, x -> x.become(9, 9), Edges.BEYOND);
    }

    // ---- promise 4

    @Says({"A player as one of a kind: its MEAN", "1 NEW under PLAYER, 2 DOUBTED under PLAYER"})
    static void promise4_allAreUnderPlayer() {
        FairQueue x = Edges.withPlayers(0, 1, 2);
        for (int p = 0; p <= 2; p++) {
            x.shift(p, 0, 1, p + 1);
            Edges.due("as(" + p + ", 0)", x.as(p, 0), 3000001 + p);
            Edges.due("as(" + p + ", " + p + ")", x.as(p, p), 3000001 + p);
        }
    }

    @Says("BEYOND: there is no such player, or kind")
    static void promise4_beyondNoSuchPlayer() {
        Edges.noSuchPlayer("as", (x, p) -> x.as(p, 0));
    }

    @Says("BEYOND: there is no such player, or kind")
    static void promise4_beyondNoSuchKind() {
        for (int kind : NO_KINDS) {
            Edges.refused("as(0, " + kind + ")", Edges::few, x -> x.as(0, kind), Edges.BEYOND);
        }
    }

    @Says("KIND: it isn't of that kind, nor of one under it")
    static void promise4_kindOfAnother() {
        int[][] others = {{0, 1}, {0, 2}, {1, 2}, {2, 1}};
        for (int[] one : others) {
            Edges.refused("as(" + one[0] + ", " + one[1] + ")", Edges::few, x -> x.as(one[0], one[1]), Edges.KIND);
        }
        FairQueue x = Edges.withPlayers(1);
        x.become(0, 2);
        Edges.due("as what it was", x.as(0, 1), Edges.KIND);
        Edges.due("as what it is", x.as(0, 2), 3000000);
    }

    @Says({"KIND: it isn't of that kind, nor of one under it", "in the order in which they are asked"})
    static void promise4_beyondAheadOfKind() {
        Edges.refused("as(3, 1)", Edges::few, x -> x.as(3, 1), Edges.BEYOND);
        Edges.refused("as(16, 2)", Edges::busy, x -> x.as(16, 2), Edges.BEYOND);
    }

    // ---- promise 5

    @Says({"SHARE of a LEVEL",
        "SHARES of LEVELS 0 .. 6, a MILLION together (1000000): at first 142857 each, LEVEL 3 one more"})
    static void promise5_leastAndGreatestLevel() {
        FairQueue x = Edges.withPlayers(0);
        Edges.dueTable("at first", x, 0, Edges.EVEN);
        x.shift(0, 0, 6, 142857);
        Edges.due("nothing", x.share(0, 0), 0);
        Edges.due("twice as much", x.share(0, 6), 285714);
        Edges.allAtLevel(x, 0, 0);
        Edges.dueTable("a MILLION at one level", x, 0, 1000000, 0, 0, 0, 0, 0, 0);
    }

    @Says("BEYOND: there is no such player, or level")
    static void promise5_beyondNoSuchPlayer() {
        Edges.noSuchPlayer("share", (x, p) -> x.share(p, 3));
    }

    @Says("BEYOND: there is no such player, or level")
    static void promise5_beyondNoSuchLevel() {
        for (int level : NO_LEVELS) {
            Edges.refused("share(1, " + level + ")", Edges::few, x -> x.share(1, level), Edges.BEYOND);
            Edges.refused("share(15, " + level + ")", Edges::busy, x -> x.share(15, level), Edges.BEYOND);
        }
    }

    // ---- promise 6

    @Says("v of the SHARE of a LEVEL goes to that of another one: what the second has")
    static void promise6_nothingGoes() {
        FairQueue x = Edges.withPlayers(0);
        Edges.due("shift of 0", x.shift(0, 0, 6, 0), 142857);
        Edges.dueTable("all as it was", x, 0, Edges.EVEN);
        x.shift(0, 0, 6, 142857);
        Edges.due("0 out of nothing", x.shift(0, 0, 3, 0), 142858);
    }

    @Says({"v of the SHARE of a LEVEL goes to that of another one: what the second has",
        "v isn't 0 .. the first one's SHARE"})
    static void promise6_allGoes() {
        FairQueue x = Edges.withPlayers(0, 0);
        Edges.due("all of LEVEL 3", x.shift(0, 3, 6, 142858), 285715);
        Edges.dueTable("then", x, 0, 142857, 142857, 142857, 0, 142857, 142857, 285715);
        Edges.dueTable("the other one's", x, 1, Edges.EVEN);
        Edges.allAtLevel(x, 0, 6);
        Edges.due("a MILLION", x.shift(0, 6, 0, 1000000), 1000000);
    }

    @Says("v of the SHARE of a LEVEL goes to that of another one: what the second has")
    static void promise6_toTheSameLevel() {
        FairQueue x = Edges.withPlayers(0);
        Edges.due("5 to itself", x.shift(0, 2, 2, 5), 142857);
        Edges.due("all to itself", x.shift(0, 2, 2, 142857), 142857);
        Edges.due("nothing to itself", x.shift(0, 2, 2, 0), 142857);
        Edges.dueTable("all as it was", x, 0, Edges.EVEN);
        Edges.refused("more than all to itself", Edges::few, y -> y.shift(0, 2, 2, 142858), Edges.BEYOND);
    }

    @Says("v isn't 0 .. the first one's SHARE")
    static void promise6_beyondMoreThanTheShare() {
        for (int v : new int[] {142858, 142859, 1000000, 1000001, Edges.MOST}) {
            Edges.refused("shift of " + v, Edges::few, x -> x.shift(0, 0, 6, v), Edges.BEYOND);
        }
        Edges.refused("one more than LEVEL 3 has", Edges::few, x -> x.shift(0, 3, 6, 142859), Edges.BEYOND);
        FairQueue x = Edges.withPlayers(0);
        x.shift(0, 0, 6, 142857);
        Edges.due("1 out of nothing", x.shift(0, 0, 6, 1), Edges.BEYOND);
        Edges.due("nothing came", x.share(0, 6), 285714);
    }

    @Says("v isn't 0 .. the first one's SHARE")
    static void promise6_beyondLessThan0() {
        for (int v : new int[] {-1, -142857, Edges.LEAST, Edges.LEAST + 1}) {
            Edges.refused("shift of " + v, Edges::few, x -> x.shift(0, 0, 6, v), Edges.BEYOND);
            Edges.refused("shift of " + v + " to itself", Edges::few, x -> x.shift(0, 0, 0, v), Edges.BEYOND);
        }
    }

    @Says("BEYOND: there is no such player, or level (either)")
    static void promise6_beyondNoSuchLevel() {
        for (int level : NO_LEVELS) {
            Edges.refused("shift from " + level, Edges::few, x -> x.shift(0, level, 0, 0), Edges.BEYOND);
            Edges.refused("shift to " + level, Edges::few, x -> x.shift(0, 0, level, 1), Edges.BEYOND);
            Edges.refused("shift from and to " + level, Edges::few, x -> x.shift(0, level, level, 0), Edges.BEYOND);
        }
    }

    @Says("BEYOND: there is no such player, or level (either)")
    static void promise6_beyondNoSuchPlayer() {
        Edges.noSuchPlayer("shift", (x, p) -> x.shift(p, 0, 1, 0));
    }

    @Says("v of the SHARE of a LEVEL goes to that of another one: what the second has")
    static void promise6_ofOneWhoWaitsOrPlays() {
        FairQueue x = Edges.busy();
        Edges.due("one who waits", x.shift(13, 0, 6, 1), 142858);
        Edges.due("which shows in its MEAN", x.mean(13), 3000006);
        Edges.due("one who plays", x.shift(1, 0, 1, 0), x.share(1, 1));
    }

    // ---- promise 7

    @Says({"MEAN", "the sum over LEVELS of LEVEL times SHARE"})
    static void promise7_leastAndGreatest() {
        FairQueue x = Edges.withPlayers(0);
        Edges.due("at first", x.mean(0), 3000000);
        for (int level = 0; level <= 6; level++) {
            Edges.allAtLevel(x, 0, level);
            Edges.due("all at level " + level, x.mean(0), 1000000L * level);
        }
        x.shift(0, 6, 0, 1);
        Edges.due("one part below the greatest", x.mean(0), 5999994);
    }

    @Says("BEYOND")
    static void promise7_beyondNoSuchPlayer() {
        Edges.noSuchPlayer("mean", (x, p) -> x.mean(p));
    }

    // ---- promise 8

    @Says({"CHANCE of a player against another one alone", "ODDS of LEVELS l and m: 500 and 70 times (l - m), thousandths"})
    static void promise8_leastAndGreatestOdds() {
        FairQueue x = Edges.withPlayers(0, 0);
        for (int l = 0; l <= 6; l++) {
            Edges.allAtLevel(x, 0, l);
            for (int m : new int[] {0, 3, 6}) {
                Edges.allAtLevel(x, 1, m);
                Edges.due("level " + l + " against " + m, x.chance(0, 1), 500000 + 70000 * (l - m));
            }
        }
    }

    @Says({"Quotients are cut", "SHARE of m times ODDS of l and m, by 1000 times how many they are (millionths)"})
    static void promise8_cutAtEachLevel() {
        FairQueue x = Edges.withPlayers(0, 0);
        x.shift(1, 0, 1, 1);
        // One part a level up is 0.07 less for the other, cut to one less at each level.
        Edges.due("a little less than even", x.chance(0, 1), 499999);
        // The other way no level's chance has a fraction, and the sum has 0.07, which is cut.
        Edges.due("a little more than even", x.chance(1, 0), 500000);
    }

    @Says({"Quotients are cut", "the sum over LEVELS of SHARE times that CHANCE, by a MILLION"})
    static void promise8_cutAtTheEnd() {
        FairQueue x = Edges.withPlayers(0, 0);
        x.shift(0, 0, 6, 142857);
        // 500000 and 6 times 70000 times 142857 by a MILLION: 559999.94.
        Edges.due("nearly 560000", x.chance(0, 1), 559999);
    }

    @Says("CHANCE of a player against another one alone")
    static void promise8_kindsAreAllTheSame() {
        FairQueue x = Edges.withPlayers(0, 1, 2);
        Edges.allAtLevel(x, 2, 6);
        Edges.due("against a DOUBTED one", x.chance(0, 2), 290000);
        Edges.due("of a DOUBTED one", x.chance(2, 1), 710000);
        Edges.due("of a NEW one", x.chance(1, 0), 500000);
    }

    @Says("BEYOND: there is no such one, or they are the same")
    static void promise8_beyondNoSuchOne() {
        Edges.noSuchPlayer("chance of", (x, p) -> x.chance(p, 0));
        Edges.noSuchPlayer("chance against", (x, p) -> x.chance(0, p));
    }

    @Says("BEYOND: there is no such one, or they are the same")
    static void promise8_beyondTheSame() {
        for (int p = 0; p <= 2; p++) {
            int same = p;
            Edges.refused("chance(" + p + ", " + p + ")", Edges::few, x -> x.chance(same, same), Edges.BEYOND);
        }
        Edges.refused("chance(15, 15)", Edges::busy, x -> x.chance(15, 15), Edges.BEYOND);
        Edges.noSuchPlayer("chance against itself", (x, p) -> x.chance(p, p));
    }

    // ---- promise 9

    @Says("what is left over goes to LEVEL 3: how many players")
    static void promise9_nobodyAnd16() {
        Edges.due("nobody", new FairQueue().season(), 0);
        FairQueue x = Edges.manyPlayers(16, 1);
        Edges.allAtLevel(x, 0, 6);
        Edges.allAtLevel(x, 15, 0);
        Edges.due("16", x.season(), 16);
        Edges.dueTable("the first's", x, 0, 71428, 71428, 71428, 71432, 71428, 71428, 571428);
        Edges.dueTable("the last's", x, 15, 571428, 71428, 71428, 71432, 71428, 71428, 71428);
    }

    @Says("All TABLES are drawn to the middle: each SHARE becomes it and 142857 (LEVEL 3: 142858), by 2")
    static void promise9_evenStaysEven() {
        FairQueue x = Edges.withPlayers(0, 1, 2);
        Edges.due("season", x.season(), 3);
        for (int p = 0; p <= 2; p++) {
            Edges.dueTable("even", x, p, Edges.EVEN);
        }
    }

    @Says("what is left over goes to LEVEL 3")
    static void promise9_leftOver() {
        FairQueue x = Edges.withPlayers(0, 0, 0);
        Edges.allAtLevel(x, 0, 3);
        x.shift(1, 0, 6, 1);
        x.shift(2, 0, 6, 2);
        x.season();
        // Six levels lose half a part each.
        Edges.dueTable("three left over", x, 0, 71428, 71428, 71428, 571432, 71428, 71428, 71428);
        Edges.dueTable("one left over", x, 1, 142856, 142857, 142857, 142859, 142857, 142857, 142857);
        Edges.dueTable("nothing left over", x, 2, 142856, 142857, 142857, 142858, 142857, 142857, 142858);
    }

    @Says("STATE: a MATCH goes on")
    static void promise9_stateAMatchGoesOn() {
        Edges.refused("season where one of a match dropped", Edges::busy, x -> x.season(), Edges.STATE);
        Edges.refused("season in a duel", () -> Edges.duel(0, 0), x -> x.season(), Edges.STATE);
        FairQueue x = Edges.manyPlayers(4, 1);
        Edges.waitAlone(x, 0, 3);
        x.tick();
        x.end(0, 2);
        Edges.due("match 1 goes on", x.season(), Edges.STATE);
        x.drop(2);
        Edges.due("none goes on", x.season(), 4);
    }

    @Says("STATE: a MATCH goes on")
    static void promise9_aPartyMayWait() {
        FairQueue x = Edges.few();
        Edges.due("season", x.season(), 3);
        Edges.due("it still waits", x.waited(1, false), 1);
        Edges.due("the numbers still wait", x.count(5), 2);
        Edges.due("kinds stay", x.become(1, 0), 1);
        FairQueue y = Edges.duel(0, 0);
        y.end(0, 2);
        y.season();
        Edges.due("surprises stay", y.surprise(0, -1), 500000);
    }
}
