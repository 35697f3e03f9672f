import java.lang.reflect.Array;
import java.lang.reflect.Field;
import java.lang.reflect.Modifier;
import java.util.Arrays;
import java.util.Collections;
import java.util.IdentityHashMap;
import java.util.Set;

/** The edges of promises 17 to 22: the calls on matches. Each test is named by its promise. */
public final class EdgesOfMatches {
    private static final int[] NO_PLACES = {-1, 5, 6, 32, 256, 65536, Edges.LEAST, Edges.MOST};
    private static final long[] WON_ONCE = {82857, 102857, 122857, 142858, 162856, 182856, 202859};
    private static final long[] LOST_ONCE = {202859, 182856, 162856, 142858, 122857, 102857, 82857};

    public static void main(String[] args) throws Exception {
        Edges.run(EdgesOfMatches.class);
    }

    /** 0 and 1 in match 0, each all at a level, so that no result moves a table; they meet again within any bound. */
    private static FairQueue fixedDuel(int level, int otherLevel) {
        FairQueue x = Edges.withPlayers(0, 0);
        x.size(1);
        x.bounds(10000000, 0, 10000000);
        Edges.allAtLevel(x, 0, level);
        Edges.allAtLevel(x, 1, otherLevel);
        Edges.again(x);
        return x;
    }

    private static void endAndAgain(FairQueue x, int times, int result) {
        for (int i = 0; i < times; i++) {
            x.end(0, result);
            Edges.again(x);
        }
    }

    private static void dueHalves(String what, FairQueue x, int player, long bottom, long top) {
        Edges.dueTable(what, x, player, bottom, 0, 0, 0, 0, 0, top);
    }

    // ---- promise 17

    @Says({"Of a MATCH: what 0 its first TEAM as bits, 1 the second, 2 who DROPPED, 3 the TICK in which it was made",
        "MATCHES 0 .. 4 that go on"})
    static void promise17_leastAndGreatestPlace() {
        FairQueue x = Edges.manyPlayers(16, 3);
        x.wait(0, 1, 2);
        x.wait(13, 14, 15);
        x.tick();
        Edges.due("first", x.match(0, 0), 0b0000000000000111);
        Edges.due("second", x.match(0, 1), 0b1110000000000000);
        Edges.due("nobody dropped", x.match(0, 2), 0);
        Edges.due("made in", x.match(0, 3), 0);
        FairQueue y = Edges.manyPlayers(10, 1);
        Edges.waitAlone(y, 0, 9);
        y.tick();
        Edges.due("first of the last", y.match(4, 0), 1 << 8);
        Edges.due("second of the last", y.match(4, 1), 1 << 9);
        Edges.due("chance of the last", y.match(4, 4), 500000);
    }

    @Says("2 who DROPPED")
    static void promise17_whoDropped() {
        FairQueue x = Edges.threeAgainstThree(0, 0, 0, 0, 0, 0);
        x.drop(5);
        Edges.due("one", x.match(0, 2), 0b100000);
        x.drop(0);
        Edges.due("one of each", x.match(0, 2), 0b100001);
        x.drop(4);
        x.drop(2);
        Edges.due("all but one of each", x.match(0, 2), 0b110101);
        Edges.due("the first TEAM is whole", x.match(0, 0), 0b000111);
        Edges.due("the second TEAM, too", x.match(0, 1), 0b111000);
        x.end(0, 1);
        x.bounds(10000000, 0, 10000000);
        x.wait(0, 1, 2);
        x.wait(3, 4, 5);
        x.tick();
        Edges.due("nobody out of the next one there", x.match(0, 2), 0);
    }

    @Says("4 CHANCE of the first TEAM as TABLES are now")
    static void promise17_chanceOfTeamsOfOne() {
        FairQueue x = Edges.duel(0, 0);
        Edges.due("even", x.match(0, 4), 500000);
        Edges.allAtLevel(x, 0, 6);
        Edges.allAtLevel(x, 1, 0);
        Edges.due("the greatest", x.match(0, 4), 920000);
        Edges.allAtLevel(x, 0, 0);
        Edges.allAtLevel(x, 1, 6);
        Edges.due("the least", x.match(0, 4), 80000);
    }

    @Says({"Quotients are cut",
        "CHANCE of a team against another one: the sum of its players' CHANCES by how many they are"})
    static void promise17_chanceOfATeamIsCut() {
        FairQueue x = Edges.twoAgainstTwo(0, 0, 0, 0);
        x.shift(0, 0, 6, 142857);
        // 559999 and 500000 by 2.
        Edges.due("of two", x.match(0, 4), 529999);
        FairQueue y = Edges.threeAgainstThree(0, 0, 0, 0, 0, 0);
        y.shift(1, 0, 6, 142857);
        // 559999, 500000 and 500000 by 3.
        Edges.due("of three", y.match(0, 4), 519999);
    }

    @Says({"4 CHANCE of the first TEAM as TABLES are now", "CHANCE of a team against another one"})
    static void promise17_chanceOfWholeTeams() {
        FairQueue x = Edges.twoAgainstTwo(0, 0, 0, 2);
        for (int p = 0; p <= 3; p++) {
            Edges.allAtLevel(x, p, p == 0 || p == 3 ? 6 : 0);
        }
        // 920000 and 500000 of the first, 500000 and 80000 of the other one.
        Edges.due("with a DOUBTED one", x.match(0, 4), 500000);
        x.drop(0);
        x.drop(2);
        Edges.due("with those who dropped", x.match(0, 4), 500000);
    }

    @Says("BEYOND: there is no such place, or another what")
    static void promise17_beyondNoSuchPlace() {
        for (int m : NO_PLACES) {
            for (int what : new int[] {0, 4}) {
                Edges.refused("match(" + m + ", " + what + ")", Edges::busy, x -> x.match(m, what), Edges.BEYOND);
            }
        }
    }

    @Says("BEYOND: there is no such place, or another what")
    static void promise17_beyondAnotherWhat() {
        for (int what : new int[] {-1, 5, 6, 256, 65536, Edges.LEAST, Edges.MOST}) {
            Edges.refused("match(0, " + what + ")", Edges::busy, x -> x.match(0, what), Edges.BEYOND);
        }
    }

    @Says("NONE: none goes on there")
    static void promise17_noneGoesOnThere() {
        for (int m = 1; m < 5; m++) {
            int place = m;
            for (int what = 0; what <= 4; what++) {
                int w = what;
                Edges.refused("match(" + m + ", " + w + ")", Edges::busy, x -> x.match(place, w), Edges.NONE);
            }
        }
        FairQueue x = Edges.duel(0, 0);
        x.end(0, 1);
        for (int what = 0; what <= 4; what++) {
            Edges.due("behind its end, what " + what, x.match(0, what), Edges.NONE);
        }
        FairQueue y = Edges.duel(0, 0);
        y.drop(1);
        Edges.due("behind a drop that ended it", y.match(0, 2), Edges.NONE);
    }

    @Says("in the order in which they are asked")
    static void promise17_beyondAheadOfNone() {
        Edges.refused("match(1, 5)", Edges::busy, x -> x.match(1, 5), Edges.BEYOND);
        Edges.refused("match(4, -1)", Edges::busy, x -> x.match(4, -1), Edges.BEYOND);
    }

    @Says("a new one takes the least free number")
    static void promise17_theLeastFreeNumber() {
        FairQueue x = Edges.manyPlayers(16, 1);
        Edges.waitAlone(x, 0, 9);
        x.tick();
        x.end(4, 1);
        x.end(2, 1);
        x.drop(2);
        Edges.waitAlone(x, 10, 13);
        Edges.due("two more", x.tick(), 2);
        Edges.due("at 1", x.match(1, 0), 1 << 10);
        Edges.due("at 2", x.match(2, 0), 1 << 12);
        Edges.due("4 is free", x.match(4, 0), Edges.NONE);
        Edges.due("0 goes on", x.match(0, 0), 1);
        Edges.due("3 goes on", x.match(3, 0), 1 << 6);
    }

    // ---- promise 18

    @Says({"A MATCH ENDS: how many players' TABLES moved by it",
        "When one ENDS with a RESULT of its first TEAM (2, 1, 0; of the second: 2 less that)"})
    static void promise18_eachResult() {
        FairQueue x = Edges.duel(0, 0);
        Edges.due("won", x.end(0, 2), 2);
        Edges.dueTable("won", x, 0, WON_ONCE);
        Edges.dueTable("lost by the second", x, 1, LOST_ONCE);
        FairQueue y = Edges.duel(0, 0);
        Edges.due("lost", y.end(0, 0), 2);
        Edges.dueTable("lost", y, 0, LOST_ONCE);
        Edges.dueTable("won by the second", y, 1, WON_ONCE);
        FairQueue z = Edges.duel(0, 0);
        Edges.due("drawn", z.end(0, 1), 2);
        Edges.dueTable("drawn", z, 0, 127666, 142856, 151971, 155014, 151971, 142856, 127666);
        Edges.dueTable("drawn by the second", z, 1, 127666, 142856, 151971, 155014, 151971, 142856, 127666);
    }

    @Says("BEYOND: there is no such place, or result")
    static void promise18_beyondNoSuchPlace() {
        for (int m : NO_PLACES) {
            Edges.refused("end(" + m + ", 1)", Edges::busy, x -> x.end(m, 1), Edges.BEYOND);
        }
    }

    @Says("BEYOND: there is no such place, or result")
    static void promise18_beyondNoSuchResult() {
        for (int result : new int[] {-1, 3, 4, 256, 65536, Edges.LEAST, Edges.MOST}) {
            Edges.refused("end(0, " + result + ")", Edges::busy, x -> x.end(0, result), Edges.BEYOND);
        }
    }

    @Says("NONE")
    static void promise18_noneGoesOnThere() {
        for (int m = 1; m < 5; m++) {
            int place = m;
            Edges.refused("end(" + m + ", 2)", Edges::busy, x -> x.end(place, 2), Edges.NONE);
        }
        FairQueue x = Edges.duel(0, 0);
        x.end(0, 2);
        Edges.due("ended already", x.end(0, 2), Edges.NONE);
        Edges.dueTable("and not moved again", x, 0, WON_ONCE);
        FairQueue y = Edges.duel(0, 0);
        y.drop(0);
        Edges.due("ended by a drop", y.end(0, 2), Edges.NONE);
    }

    @Says("in the order in which they are asked")
    static void promise18_beyondAheadOfNone() {
        Edges.refused("end(1, 3)", Edges::busy, x -> x.end(1, 3), Edges.BEYOND);
        Edges.refused("end(4, -1)", Edges::busy, x -> x.end(4, -1), Edges.BEYOND);
    }

    @Says("each SHARE becomes it times f: f is c (the CHANCE at that LEVEL), a MILLION less c, or, of a draw, "
            + "c times (a MILLION less c) by a MILLION")
    static void promise18_atTheLeastAndTheGreatestLevel() {
        long[][] due = {{710000, 290000}, {500000, 500000}, {290000, 710000}};
        for (int result = 0; result <= 2; result++) {
            FairQueue x = Edges.duel(0, 0);
            Edges.halfAndHalf(x, 0);
            x.end(0, result);
            dueHalves("result " + result, x, 0, due[result][0], due[result][1]);
        }
        // Against the top f is 80000 and 500000, of a draw 73600 and 250000.
        FairQueue y = Edges.duel(0, 0);
        Edges.halfAndHalf(y, 0);
        Edges.allAtLevel(y, 1, 6);
        y.end(0, 1);
        dueHalves("drawn with the top", y, 0, 227441, 772559);
    }

    @Says({"Quotients are cut", "of a draw, c times (a MILLION less c) by a MILLION"})
    static void promise18_factorOfADrawIsCut() {
        FairQueue x = Edges.duel(0, 0);
        Edges.halfAndHalf(x, 0);
        x.shift(1, 0, 6, 1);
        x.end(0, 1);
        // 289999 and 709999 make 205899.58 and 205900.42.
        dueHalves("cut to 205899 and 205900", x, 0, 499998, 500002);
        FairQueue y = Edges.duel(0, 0);
        Edges.halfAndHalf(y, 0);
        y.shift(1, 0, 6, 2074);
        y.end(0, 1);
        // 289128 and 709128 make 205532.9996 and 206265.48.
        dueHalves("cut to 205532 and 206265", y, 0, 499109, 500891);
    }

    @Says("then SHARES are made a MILLION together")
    static void promise18_aMillionAtOneLevelStays() {
        int[][] levels = {{0, 6}, {6, 0}, {6, 6}, {0, 0}, {3, 6}};
        for (int[] two : levels) {
            for (int result = 0; result <= 2; result++) {
                FairQueue x = fixedDuel(two[0], two[1]);
                x.end(0, result);
                Edges.due("the first", x.share(0, two[0]), 1000000);
                Edges.due("the second", x.share(1, two[1]), 1000000);
            }
        }
    }

    @Says("what is left over goes to the greatest (of several the least LEVEL)")
    static void promise18_leftOverToTheLeastOfSeveral() {
        FairQueue x = Edges.duel(0, 0);
        Edges.allAtLevel(x, 0, 3);
        x.shift(0, 3, 0, 450000);
        x.shift(0, 3, 6, 450000);
        x.end(0, 1);
        // 440563.45, 118872.14 and 440563.45: two parts are left over.
        Edges.dueTable("drawn", x, 0, 440565, 0, 0, 118872, 0, 0, 440563);
    }

    @Says({"each times a MILLION by all of these, cut", "what is left over goes to the greatest"})
    static void promise18_leftOverToEachLevel() {
        for (int greatest = 0; greatest <= 6; greatest++) {
            int other = (greatest + 4) % 7;
            for (int result = 0; result <= 2; result += 2) {
                FairQueue x = Edges.duel(0, 0);
                Edges.allAtLevel(x, 0, greatest);
                x.shift(0, greatest, other, 123457);
                x.end(0, result);
                long great = 876543L * chanceAgainstEven(greatest, result);
                long less = 123457L * chanceAgainstEven(other, result);
                long due = less * 1000000L / (great + less);
                Edges.due("cut, at " + other, x.share(0, other), due);
                Edges.due("with what is left over, at " + greatest, x.share(0, greatest), 1000000L - due);
            }
        }
    }

    private static long chanceAgainstEven(int level, int result) {
        long chance = 290000L + 70000L * level;
        return result == 2 ? chance : 1000000L - chance;
    }

    @Says("what is left over goes to the greatest (of several the least LEVEL)")
    static void promise18_leftOverToTheGreatestThatCameOut() {
        FairQueue x = Edges.duel(0, 0);
        Edges.halfAndHalf(x, 0);
        x.shift(0, 6, 0, 10000);
        x.end(0, 2);
        // 298305.77 and 701694.23: LEVEL 0 was the greatest, LEVEL 6 is it now.
        dueHalves("won", x, 0, 298305, 701695);
        FairQueue y = Edges.duel(0, 0);
        Edges.halfAndHalf(y, 0);
        y.shift(0, 0, 6, 10000);
        y.end(0, 0);
        dueHalves("lost", y, 0, 701695, 298305);
    }

    /**
     * No run of calls makes such a table, since no CHANCE is below 80000 nor above 920000: so one of nothing is put
     * inside the object. Against it each CHANCE is 0, so who wins against it has products of 0, too.
     */
    @Says("If all together are 0 the TABLE stays")
    static void promise18_productsOf0() throws Exception {
        for (int result = 0; result <= 2; result++) {
            FairQueue x = Edges.duel(0, 0);
            x.shift(0, 0, 1, 77);
            emptyTables(x, new long[] {142780, 142934, 142857, 142858, 142857, 142857, 142857});
            Edges.dueTable("setup: emptied", x, 0, 0, 0, 0, 0, 0, 0, 0);
            x.end(0, result);
            Edges.dueTable("of products of 0", x, 0, 0, 0, 0, 0, 0, 0, 0);
            Edges.dueTable("of chances of 0", x, 1, Edges.EVEN);
        }
    }

    /** Empties all tables inside an object that are like one; how they are held is free, so all arrays are looked at. */
    private static void emptyTables(FairQueue x, long[] like) throws Exception {
        empty(x, like, Collections.newSetFromMap(new IdentityHashMap<>()));
    }

    private static void empty(Object one, long[] like, Set<Object> seen) throws Exception {
        if (one == null || !seen.add(one)) {
            return;
        }
        if (one instanceof long[] row) {
            if (Arrays.equals(row, like)) {
                Arrays.fill(row, 0);
            }
        } else if (one instanceof Object[] row) {
            for (int i = 0; i < row.length; i++) {
                empty(Array.get(row, i), like, seen);
            }
        } else if (one.getClass().getName().startsWith("FairQueue")) {
            for (Field field : one.getClass().getDeclaredFields()) {
                if (!Modifier.isStatic(field.getModifiers()) && !field.getType().isPrimitive()) {
                    field.setAccessible(true);
                    empty(field.get(one), like, seen);
                }
            }
        }
    }

    @Says({"All by SHARES as they were ahead of the end", "(All by SHARES as they were ahead of the RESULT"})
    static void promise18_nobodyGoesByWhatOthersBecame() {
        FairQueue x = Edges.threeAgainstThree(0, 0, 0, 0, 0, 0);
        Edges.due("all six", x.end(0, 2), 6);
        for (int p = 0; p <= 2; p++) {
            Edges.dueTable("won", x, p, WON_ONCE);
            Edges.dueTable("lost", x, p + 3, LOST_ONCE);
            Edges.due("SURPRISE of " + p, x.surprise(p, 0), 500000);
            Edges.due("SURPRISE of " + (p + 3), x.surprise(p + 3, 0), -500000);
        }
    }

    @Says("for each player who didn't DROP")
    static void promise18_whoDroppedMovesNoMore() {
        FairQueue x = Edges.threeAgainstThree(0, 0, 0, 0, 0, 0);
        x.drop(0);
        x.drop(1);
        x.drop(5);
        Edges.due("three of six", x.end(0, 2), 3);
        Edges.dueTable("who dropped lost once", x, 0, LOST_ONCE);
        Edges.due("and has one SURPRISE", x.surprise(0, 1), Edges.NONE);
        Edges.due("who dropped out of the losers, too", x.surprise(5, 1), Edges.NONE);
        Edges.due("who stayed has one", x.surprise(2, -1), x.surprise(2, 0));
    }

    /** 2 is all at the top and 3 even: 185000 and 605000 against both, though 2 dropped. */
    @Says("against the other TEAM's players (as they were when it was made)")
    static void promise18_whoDroppedStillCounts() {
        FairQueue x = Edges.twoAgainstTwo(0, 0, 0, 0);
        Edges.halfAndHalf(x, 0);
        Edges.allAtLevel(x, 2, 6);
        x.drop(2);
        Edges.due("three", x.end(0, 2), 3);
        dueHalves("won against both", x, 0, 234177, 765823);
        Edges.due("SURPRISE, too", x.surprise(1, 0), 1000000 - 395000);
    }

    @Says("who are not DOUBTED (if all are: it doesn't move)")
    static void promise18_allOfATeamDoubted() {
        FairQueue x = Edges.threeAgainstThree(0, 1, 2, 2, 2, 2);
        Edges.due("the DOUBTED ones alone", x.end(0, 2), 3);
        for (int p = 0; p <= 2; p++) {
            Edges.dueTable("doesn't move", x, p, Edges.EVEN);
            Edges.due("no SURPRISE", x.surprise(p, -1), Edges.NONE);
            Edges.dueTable("moves", x, p + 3, LOST_ONCE);
        }
        Edges.due("it ended", x.count(4), 1);
    }

    @Says("who are not DOUBTED (if all are: it doesn't move)")
    static void promise18_allOfBothTeamsDoubted() {
        for (int result = 0; result <= 2; result++) {
            FairQueue x = Edges.twoAgainstTwo(2, 2, 2, 2);
            Edges.due("nobody", x.end(0, result), 0);
            for (int p = 0; p <= 3; p++) {
                Edges.dueTable("doesn't move", x, p, Edges.EVEN);
                Edges.due("no SURPRISE", x.surprise(p, 0), Edges.NONE);
            }
            Edges.due("it ended", x.count(4), 1);
            Edges.due("none goes on", x.count(3), 0);
        }
    }

    @Says({"who are not DOUBTED (if all are: it doesn't move)", "a DOUBTED one's moves, too"})
    static void promise18_allButOneDoubted() {
        FairQueue x = Edges.threeAgainstThree(0, 2, 0, 2, 0, 2);
        Edges.halfAndHalf(x, 0);
        Edges.halfAndHalf(x, 1);
        Edges.allAtLevel(x, 3, 6);
        Edges.allAtLevel(x, 5, 6);
        Edges.due("all six", x.end(0, 2), 6);
        dueHalves("against 4 alone", x, 0, 290000, 710000);
        dueHalves("a DOUBTED one's, too", x, 1, 290000, 710000);
        Edges.due("SURPRISE against 4 alone", x.surprise(2, 0), 500000);
    }

    @Says("who are not DOUBTED (if all are: it doesn't move)")
    static void promise18_theOneWhoIsNotDoubtedDropped() {
        FairQueue x = Edges.twoAgainstTwo(0, 0, 0, 2);
        Edges.halfAndHalf(x, 0);
        Edges.allAtLevel(x, 2, 3);
        Edges.allAtLevel(x, 3, 6);
        x.drop(2);
        Edges.due("three", x.end(0, 2), 3);
        dueHalves("against who dropped alone", x, 0, 290000, 710000);
    }

    /** 290000 and 710000, each times itself: 142978.6 and 857021.4 of a MILLION. */
    @Says("a NEW one's twice (the second time against the same SHARES of others, its own being those of the first time)")
    static void promise18_newOnesTwice() {
        FairQueue x = Edges.duel(1, 1);
        Edges.halfAndHalf(x, 0);
        Edges.due("both count once", x.end(0, 2), 2);
        dueHalves("won twice", x, 0, 142978, 857022);
        Edges.dueTable("lost twice", x, 1, 267120, 217039, 172158, 132472, 97975, 68673, 44563);
        Edges.due("one SURPRISE", x.surprise(0, -1), 500000);
        Edges.due("no second", x.surprise(0, 1), Edges.NONE);
        FairQueue y = Edges.duel(1, 2);
        Edges.due("a NEW one against a DOUBTED one", y.end(0, 2), 1);
        Edges.dueTable("not once", y, 0, Edges.EVEN);
        Edges.dueTable("the DOUBTED one once", y, 1, LOST_ONCE);
    }

    @Says("A MATCH ENDS")
    static void promise18_itsPlayersMayWaitAgain() {
        FairQueue x = Edges.duel(0, 0);
        x.end(0, 1);
        Edges.due("none goes on", x.count(3), 0);
        Edges.due("one ended", x.count(4), 1);
        Edges.due("the first", x.wait(0, -1, -1), 1);
        Edges.due("the second", x.wait(1, -1, -1), 2);
    }

    // ---- promise 19

    @Says({"A player DROPS out of its MATCH: 1 if the MATCH ENDED by it, else 0",
        "at once its TABLE MOVES as lost, against the other TEAM (as above)"})
    static void promise19_oneOfTwo() {
        FairQueue x = Edges.twoAgainstTwo(0, 0, 0, 0);
        Edges.halfAndHalf(x, 0);
        Edges.due("drop", x.drop(0), 0);
        dueHalves("lost at once", x, 0, 710000, 290000);
        Edges.due("its SURPRISE", x.surprise(0, 0), -500000);
        for (int p = 1; p <= 3; p++) {
            Edges.dueTable("alone", x, p, Edges.EVEN);
            Edges.due("alone", x.surprise(p, 0), Edges.NONE);
        }
        Edges.due("the match goes on", x.count(3), 1);
        Edges.due("none ended", x.count(4), 0);
    }

    @Says("A TEAM of which all DROPPED has lost: the MATCH ENDS so, at once (all others as told)")
    static void promise19_theFirstTeamOfOneTwoAndThree() {
        for (int t = 1; t <= 3; t++) {
            FairQueue x = dropped(t, 0);
            Edges.due("none goes on", x.count(3), 0);
            Edges.due("one ended", x.count(4), 1);
            dueHalves("the others won", x, t, 290000, 710000);
            Edges.due("by odds ahead of it", x.surprise(t, 0), 500000);
            Edges.due("the other way it was lost", x.surprise(0, -1), -500000);
        }
    }

    @Says("A TEAM of which all DROPPED has lost: the MATCH ENDS so, at once (all others as told)")
    static void promise19_theSecondTeamOfOneTwoAndThree() {
        for (int t = 1; t <= 3; t++) {
            FairQueue x = dropped(t, t);
            Edges.due("none goes on", x.count(3), 0);
            Edges.due("one ended", x.count(4), 1);
            dueHalves("the others won", x, 0, 290000, 710000);
            Edges.due("by odds ahead of it", x.surprise(0, 0), 500000);
            Edges.due("the other way it was lost", x.surprise(t, -1), -500000);
        }
    }

    /** 0 .. t - 1 against the next t: one team dropped, all at LEVEL 3; the other's first is half and half. */
    private static FairQueue dropped(int t, int loser) {
        FairQueue x = Edges.manyPlayers(2 * t, t);
        x.wait(0, t > 1 ? 1 : -1, t > 2 ? 2 : -1);
        x.wait(t, t > 1 ? t + 1 : -1, t > 2 ? t + 2 : -1);
        Edges.due("setup: tick", x.tick(), 1);
        Edges.halfAndHalf(x, t - loser);
        for (int i = 0; i < t; i++) {
            Edges.allAtLevel(x, loser + i, 3);
            Edges.due("drop " + i + " of " + t, x.drop(loser + i), i == t - 1 ? 1 : 0);
        }
        return x;
    }

    @Says("A TEAM of which all DROPPED has lost")
    static void promise19_whereSomeOfBothDropped() {
        FairQueue x = Edges.threeAgainstThree(0, 0, 0, 0, 0, 0);
        Edges.due("two of the first", x.drop(0) + x.drop(1), 0);
        Edges.due("two of the second", x.drop(5) + x.drop(4), 0);
        Edges.due("it goes on", x.match(0, 2), 0b110011);
        Edges.due("the last of the second", x.drop(3), 1);
        Edges.due("the one who stayed won", x.surprise(2, 0) > 0 ? 1 : 0, 1);
        for (int p : new int[] {0, 1, 3, 4, 5}) {
            Edges.due("who dropped has one SURPRISE", x.surprise(p, 1), Edges.NONE);
            Edges.due("of a loss", x.surprise(p, 0) < 0 ? 1 : 0, 1);
        }
        Edges.dueTable("who dropped first lost once", x, 0, LOST_ONCE);
    }

    @Says("A TEAM of which all DROPPED has lost: the MATCH ENDS so, at once (all others as told)")
    static void promise19_endedByADropAgainstDoubtedOnes() {
        FairQueue x = Edges.duel(0, 2);
        Edges.due("drop", x.drop(0), 1);
        Edges.dueTable("who dropped doesn't move", x, 0, Edges.EVEN);
        Edges.due("has no SURPRISE", x.surprise(0, -1), Edges.NONE);
        Edges.dueTable("the DOUBTED one won", x, 1, WON_ONCE);
        FairQueue y = Edges.duel(0, 2);
        Edges.due("drop of the DOUBTED one", y.drop(1), 1);
        Edges.dueTable("it lost", y, 1, LOST_ONCE);
        Edges.dueTable("the other doesn't move", y, 0, Edges.EVEN);
    }

    @Says("the MATCH ENDS so, at once (all others as told)")
    static void promise19_endedByADropANewOneWinsTwice() {
        FairQueue x = Edges.duel(0, 1);
        Edges.allAtLevel(x, 0, 3);
        Edges.halfAndHalf(x, 1);
        Edges.due("drop", x.drop(0), 1);
        dueHalves("won twice", x, 1, 142978, 857022);
        Edges.due("one SURPRISE", x.surprise(1, -1), 500000);
    }

    @Says("against the other TEAM (as above)")
    static void promise19_newOnesLoseTwice() {
        FairQueue x = Edges.twoAgainstTwo(1, 0, 0, 0);
        Edges.halfAndHalf(x, 0);
        x.drop(0);
        dueHalves("lost twice", x, 0, 857022, 142978);
        Edges.due("one SURPRISE", x.surprise(0, 1), Edges.NONE);
    }

    @Says("against the other TEAM (as above)")
    static void promise19_againstThoseWhoAreNotDoubted() {
        FairQueue x = Edges.twoAgainstTwo(0, 0, 2, 0);
        Edges.halfAndHalf(x, 0);
        Edges.allAtLevel(x, 2, 6);
        x.drop(0);
        dueHalves("against 3 alone", x, 0, 710000, 290000);
        FairQueue y = Edges.twoAgainstTwo(0, 0, 2, 2);
        Edges.due("against DOUBTED ones alone", y.drop(0), 0);
        Edges.dueTable("doesn't move", y, 0, Edges.EVEN);
        Edges.due("no SURPRISE", y.surprise(0, 0), Edges.NONE);
        Edges.due("dropped all the same", y.match(0, 2), 1);
    }

    @Says("BEYOND")
    static void promise19_beyondNoSuchPlayer() {
        Edges.noSuchPlayer("drop", (x, p) -> x.drop(p));
    }

    @Says("NONE: it is in none, or DROPPED already")
    static void promise19_noneInNone() {
        Edges.refused("idle", Edges::busy, x -> x.drop(14), Edges.NONE);
        Edges.refused("waits", Edges::busy, x -> x.drop(13), Edges.NONE);
        Edges.refused("where none goes on", Edges::few, x -> x.drop(0), Edges.NONE);
        FairQueue x = Edges.duel(0, 0);
        x.end(0, 2);
        Edges.due("behind its end", x.drop(0), Edges.NONE);
        FairQueue y = Edges.duel(0, 0);
        y.drop(0);
        Edges.due("behind a drop that ended it", y.drop(1), Edges.NONE);
    }

    @Says("NONE: it is in none, or DROPPED already")
    static void promise19_noneDroppedAlready() {
        Edges.refused("dropped already", Edges::busy, x -> x.drop(0), Edges.NONE);
        FairQueue x = Edges.twoAgainstTwo(0, 0, 0, 0);
        x.drop(3);
        Edges.due("twice", x.drop(3), Edges.NONE);
        Edges.dueTable("lost once", x, 3, LOST_ONCE);
        x.wait(3, -1, -1);
        Edges.due("though it waits again", x.drop(3), Edges.NONE);
    }

    @Says("it may wait again")
    static void promise19_waitsOnBehindTheEndOfItsMatch() {
        FairQueue x = Edges.twoAgainstTwo(0, 0, 0, 0);
        x.drop(0);
        Edges.due("waits", x.wait(0, -1, -1), 1);
        x.tick();
        Edges.due("the match ends", x.end(0, 0), 3);
        Edges.due("waits on", x.waited(0, false), 1);
        Edges.dueTable("lost once", x, 0, LOST_ONCE);
    }

    // ---- promise 20

    @Says({"The i-th SURPRISE that is kept (from 0 on, the earliest first; -1: their sum)",
        "half a MILLION times RESULT, less its CHANCE against those as both were ahead of it"})
    static void promise20_leastAndGreatest() {
        FairQueue x = fixedDuel(6, 0);
        endAndAgain(x, 1, 0);
        endAndAgain(x, 1, 1);
        endAndAgain(x, 1, 2);
        long[] strong = {-920000, -420000, 80000};
        for (int i = 0; i < 3; i++) {
            Edges.due("of the stronger, " + i, x.surprise(0, i), strong[i]);
            Edges.due("of the weaker, " + i, x.surprise(1, i), -strong[i]);
        }
        Edges.due("sum of the stronger", x.surprise(0, -1), -1260000);
        Edges.due("sum of the weaker", x.surprise(1, -1), 1260000);
    }

    @Says({"The latest 8 SURPRISES of each player are kept (of a DROP, too)", "the earliest first"})
    static void promise20_eightAreKept() {
        FairQueue x = fixedDuel(6, 0);
        long[] due = new long[8];
        long sum = 0;
        for (int i = 0; i < 7; i++) {
            Edges.allAtLevel(x, 1, i);
            x.end(0, 2);
            Edges.again(x);
            due[i] = 80000 + 70000 * i;
            sum += due[i];
            Edges.due("the latest", x.surprise(0, i), due[i]);
            Edges.due("no later one", x.surprise(0, i + 1), Edges.NONE);
        }
        x.end(0, 1);
        Edges.due("the first of eight", x.surprise(0, 0), due[0]);
        Edges.due("the eighth", x.surprise(0, 7), 0);
        Edges.due("sum of eight", x.surprise(0, -1), sum);
        Edges.again(x);
        x.drop(0);
        for (int i = 0; i < 6; i++) {
            Edges.due("behind a ninth, " + i, x.surprise(0, i), due[i + 1]);
        }
        Edges.due("behind a ninth, 6", x.surprise(0, 6), 0);
        Edges.due("the ninth, of a drop", x.surprise(0, 7), -500000);
        Edges.due("never nine", x.surprise(0, 8), Edges.NONE);
        Edges.due("the sum without the first", x.surprise(0, -1), sum - due[0] - 500000);
    }

    @Says("BEYOND: there is no such player")
    static void promise20_beyondNoSuchPlayer() {
        Edges.noSuchPlayer("surprise", (x, p) -> x.surprise(p, 0));
        Edges.noSuchPlayer("sum of surprises", (x, p) -> x.surprise(p, -1));
    }

    @Says("NONE: there is none such (of the sum: there are none)")
    static void promise20_noneSuch() {
        for (int i : new int[] {2, 3, 7, 8, 9, 256, 65536, -2, -3, Edges.LEAST, Edges.MOST}) {
            Edges.refused("surprise(0, " + i + ") of two", Edges::busy, x -> x.surprise(0, i), Edges.NONE);
        }
        FairQueue x = fixedDuel(6, 6);
        endAndAgain(x, 8, 1);
        for (int i : new int[] {8, 9, -2, Edges.LEAST, Edges.MOST}) {
            Edges.due("surprise(0, " + i + ") of eight", x.surprise(0, i), Edges.NONE);
        }
        Edges.due("the eighth", x.surprise(0, 7), 0);
    }

    @Says({"NONE: there is none such (of the sum: there are none)", "(if there are none, none is kept)"})
    static void promise20_noneAtAll() {
        for (int i : new int[] {-1, 0, 1, 7, 8, -2}) {
            Edges.refused("surprise(14, " + i + ")", Edges::busy, x -> x.surprise(14, i), Edges.NONE);
        }
        FairQueue x = Edges.duel(0, 2);
        x.end(0, 2);
        Edges.due("against a DOUBTED one none is kept", x.surprise(0, 0), Edges.NONE);
        Edges.due("nor a sum", x.surprise(0, -1), Edges.NONE);
        FairQueue y = fixedDuel(6, 6);
        y.end(0, 1);
        Edges.due("one of 0 is one", y.surprise(0, 0), 0);
        Edges.due("and its sum, too", y.surprise(0, -1), 0);
    }

    // ---- promise 21

    @Says({"The players that are SINKING, as bits", "a player with 5 kept ones at least"})
    static void promise21_fourAreTooFew() {
        FairQueue x = fixedDuel(6, 6);
        x.limit(0);
        for (int i = 0; i < 4; i++) {
            Edges.due("behind " + i, x.sinking(), 0);
            endAndAgain(x, 1, 0);
        }
        Edges.due("the sum is far below", x.surprise(0, -1), -2000000);
        Edges.due("behind four", x.sinking(), 0);
        x.end(0, 0);
        Edges.due("behind five", x.sinking(), 0b01);
    }

    @Says("whose sum is below -LIMIT (0 .. 8000000; 1500000 at first)")
    static void promise21_justAtTheLimit() {
        FairQueue x = fixedDuel(6, 6);
        endAndAgain(x, 5, 2);
        Edges.due("sum of the second", x.surprise(1, -1), -2500000);
        Edges.due("below -1500000", x.sinking(), 0b10);
        x.limit(2500000);
        Edges.due("just -LIMIT", x.sinking(), 0);
        x.limit(2499999);
        Edges.due("one below -LIMIT", x.sinking(), 0b10);
        x.limit(2500001);
        Edges.due("one above -LIMIT", x.sinking(), 0);
    }

    @Says("whose sum is below -LIMIT (0 .. 8000000; 1500000 at first)")
    static void promise21_theLeastLimit() {
        FairQueue x = fixedDuel(6, 6);
        x.limit(0);
        endAndAgain(x, 5, 1);
        Edges.due("a sum of 0", x.surprise(0, -1), 0);
        Edges.due("is not below 0", x.sinking(), 0);
        // 15 parts a level lower make the other's chance 500001.05.
        x.shift(1, 6, 5, 15);
        x.end(0, 1);
        Edges.due("a sum of -1", x.surprise(0, -1), -1);
        Edges.due("is below 0", x.sinking(), 0b01);
    }

    @Says("whose sum is below -LIMIT (0 .. 8000000; 1500000 at first)")
    static void promise21_theGreatestLimit() {
        FairQueue x = fixedDuel(6, 0);
        endAndAgain(x, 9, 0);
        Edges.due("the least sum that can be", x.surprise(0, -1), -7360000);
        x.limit(8000000);
        Edges.due("is above -8000000", x.sinking(), 0);
        x.limit(7360000);
        Edges.due("just -LIMIT", x.sinking(), 0);
        x.limit(7359999);
        Edges.due("one below -LIMIT", x.sinking(), 0b01);
    }

    @Says("a player with 5 kept ones at least, whose sum is below -LIMIT")
    static void promise21_goesByTheLatestEight() {
        FairQueue x = fixedDuel(6, 6);
        x.limit(0);
        endAndAgain(x, 8, 0);
        Edges.due("eight lost", x.sinking(), 0b01);
        endAndAgain(x, 3, 2);
        Edges.due("five lost, three won", x.sinking(), 0b01);
        endAndAgain(x, 1, 2);
        Edges.due("four lost, four won", x.sinking(), 0);
        endAndAgain(x, 1, 2);
        Edges.due("three lost, five won: the other way for the second", x.sinking(), 0b10);
        Edges.due("sum of the second", x.surprise(1, -1), -1000000);
    }

    @Says("The players that are SINKING, as bits")
    static void promise21_theFirstAndTheLastOf16() {
        FairQueue x = Edges.manyPlayers(16, 1);
        x.bounds(10000000, 0, 10000000);
        Edges.allAtLevel(x, 0, 6);
        Edges.allAtLevel(x, 1, 6);
        Edges.allAtLevel(x, 14, 0);
        Edges.allAtLevel(x, 15, 0);
        for (int i = 0; i < 5; i++) {
            Edges.due("nobody yet", x.sinking(), 0);
            Edges.waitAlone(x, 0, 1);
            Edges.waitAlone(x, 14, 15);
            Edges.due("two matches", x.tick(), 2);
            x.end(0, 0);
            x.end(1, 2);
        }
        Edges.due("0 and 15", x.sinking(), 0b1000000000000001);
    }

    // ---- promise 22

    @Says({"LIMIT: what it was", "(0 .. 8000000; 1500000 at first)"})
    static void promise22_leastAndGreatest() {
        FairQueue x = new FairQueue();
        Edges.due("the least", x.limit(0), 1500000);
        Edges.due("the greatest", x.limit(8000000), 0);
        Edges.due("the same again", x.limit(8000000), 8000000);
        Edges.due("another", x.limit(1), 8000000);
        Edges.due("what it was", x.limit(0), 1);
    }

    @Says("BEYOND")
    static void promise22_beyondBelowAndAbove() {
        for (int v : new int[] {-1, 8000001, -8000000, Edges.LEAST, Edges.MOST}) {
            Edges.refused("limit(" + v + ")", Edges::few, x -> x.limit(v), Edges.BEYOND);
            Edges.refused("limit(" + v + ") at first", FairQueue::new, x -> x.limit(v), Edges.BEYOND);
        }
    }
}
