/** The edges of promises 23 to 26: the calls that tell. Each test is named by its promise. */
public final class EdgesOfWhatIsTold {
    public static void main(String[] args) throws Exception {
        Edges.run(EdgesOfWhatIsTold.class);
    }

    /** Teams of one; ten wait, so that a tick makes five matches: 0 and 1, 2 and 3, .. 8 and 9. */
    private static FairQueue fiveToCome() {
        FairQueue x = Edges.manyPlayers(12, 1);
        Edges.waitAlone(x, 0, 9);
        return x;
    }

    /** Tells the first numbers of the five matches to come. */
    private static void tellFirst(FairQueue x, int number) {
        for (int i = 0; i < number; i++) {
            x.tell(1 << i);
        }
    }

    private static void dueCheck(String what, FairQueue x, long want, int... numbers) {
        for (int number : numbers) {
            x.tell(number);
        }
        Edges.due("check of " + what, x.check(), want);
        Edges.due("none waits behind check of " + what, x.count(5), 0);
    }

    // ---- promise 23

    @Says("One more number waits: how many")
    static void promise23_anyNumber() {
        FairQueue x = new FairQueue();
        int[] numbers = {0, -1, 1, Edges.LEAST, Edges.MOST, 65536};
        for (int i = 0; i < numbers.length; i++) {
            Edges.due("tell(" + numbers[i] + ")", x.tell(numbers[i]), i + 1);
            Edges.due("numbers", x.count(5), i + 1);
        }
    }

    @Says("FULL: 20 wait")
    static void promise23_fullAtTheTwentyFirst() {
        for (int v : new int[] {0, 1, -1, Edges.LEAST, Edges.MOST}) {
            Edges.refused("a 21st, " + v, Edges::busy, x -> x.tell(v), Edges.FULL);
        }
        FairQueue x = new FairQueue();
        for (int i = 1; i <= 20; i++) {
            Edges.due("tell", x.tell(7), i);
        }
        Edges.due("a 21st", x.tell(7), Edges.FULL);
        Edges.due("a 22nd", x.tell(7), Edges.FULL);
        Edges.due("20 wait", x.count(5), 20);
    }

    @Says("FULL: 20 wait")
    static void promise23_twentyAgainBehindACheck() {
        FairQueue x = Edges.busy();
        x.check();
        for (int i = 1; i <= 20; i++) {
            Edges.due("tell", x.tell(i), i);
        }
        Edges.due("a 21st", x.tell(0), Edges.FULL);
    }

    @Says("one that answers a finding changes nothing but what found() tells")
    static void promise23_aRefusedNumberIsNotTold() {
        FairQueue x = fiveToCome();
        tellFirst(x, 10);
        for (int i = 0; i < 10; i++) {
            x.tell(0);
        }
        x.tell(5);
        Edges.due("more than five matches", x.check(), 99);
    }

    // ---- promise 24

    @Says("0 if they are")
    static void promise24_noneToldNoneMade() {
        dueCheck("nothing, nobody waits", new FairQueue(), 0);
        dueCheck("nothing, one waits alone", Edges.manyPlayers(3, 1), 0);
        FairQueue x = Edges.manyPlayers(2, 1);
        x.shift(0, 0, 1, 1);
        Edges.waitAlone(x, 0, 1);
        x.bounds(0, 0, 0);
        dueCheck("nothing, two wait too uneven", x, 0);
        x.bounds(1, 0, 1);
        dueCheck("nothing, two wait just within the BOUND", x, 1);
    }

    @Says("0 if they are")
    static void promise24_allFive() {
        FairQueue x = fiveToCome();
        tellFirst(x, 10);
        dueCheck("all five", x, 0);
        tellFirst(x, 10);
        dueCheck("all five again", x, 0);
    }

    @Says("1 and i for the first MATCH (from 0 on) that isn't")
    static void promise24_eachThatIsnt() {
        for (int i = 0; i < 10; i++) {
            FairQueue x = fiveToCome();
            for (int k = 0; k < 10; k++) {
                x.tell(k == i ? 0 : 1 << k);
            }
            dueCheck("number " + i + " wrong", x, 1 + i / 2);
        }
    }

    @Says("1 and i for the first MATCH (from 0 on) that isn't")
    static void promise24_theFirstOfSeveralThatArent() {
        FairQueue x = fiveToCome();
        dueCheck("all wrong", x, 1, 0, 0, 0, 0, 0, 0, 0, 0, 0, 0);
        dueCheck("the second and the fifth wrong", x, 2, 1, 2, 4, 4, 16, 32, 64, 128, 256, 256);
    }

    @Says("or isn't whole")
    static void promise24_eachThatIsntWhole() {
        for (int i = 0; i < 5; i++) {
            FairQueue x = fiveToCome();
            tellFirst(x, 2 * i + 1);
            dueCheck("half of match " + i, x, 1 + i);
        }
    }

    @Says("or is missing")
    static void promise24_eachThatIsMissing() {
        for (int i = 0; i < 5; i++) {
            FairQueue x = fiveToCome();
            tellFirst(x, 2 * i);
            dueCheck(i + " matches of five", x, 1 + i);
        }
    }

    @Says({"or isn't whole", "or is missing", "(none do then)"})
    static void promise24_whatWasToldBeforeIsNotTold() {
        FairQueue x = fiveToCome();
        for (int i = 0; i < 5; i++) {
            tellFirst(x, 10);
            dueCheck("all five", x, 0);
            tellFirst(x, 2 * i + 1);
            dueCheck("half of match " + i + " behind all five", x, 1 + i);
            tellFirst(x, 10);
            dueCheck("all five again", x, 0);
            tellFirst(x, 2 * i);
            dueCheck(i + " matches behind all five", x, 1 + i);
        }
    }

    @Says("99 if more were told")
    static void promise24_oneMoreAndAllTwenty() {
        FairQueue x = fiveToCome();
        tellFirst(x, 11);
        dueCheck("one number more", x, 99);
        tellFirst(x, 12);
        dueCheck("a match more", x, 99);
        tellFirst(x, 20);
        dueCheck("twenty", x, 99);
        dueCheck("two where none is made", Edges.manyPlayers(2, 1), 99, 1, 2);
        dueCheck("two of nothing where none is made", Edges.manyPlayers(2, 1), 99, 0, 0);
        dueCheck("one where none is made", Edges.manyPlayers(2, 1), 99, 0);
    }

    @Says({"1 and i for the first MATCH (from 0 on) that isn't", "99 if more were told"})
    static void promise24_aWrongOneAheadOfMore() {
        FairQueue x = fiveToCome();
        dueCheck("more, the fifth wrong", x, 5, 1, 2, 4, 8, 16, 32, 64, 128, 256, 511, 1, 2);
    }

    @Says("The numbers that wait (none do then) are, by twos, the TEAMS (as bits, first and second)")
    static void promise24_firstAndSecond() {
        FairQueue x = Edges.manyPlayers(6, 3);
        x.wait(3, 4, 5);
        x.wait(0, 1, 2);
        dueCheck("first and second", x, 0, 0b111000, 0b000111);
        dueCheck("second and first", x, 1, 0b000111, 0b111000);
        dueCheck("the first twice", x, 1, 0b111000, 0b111000);
    }

    @Says("The numbers that wait (none do then) are, by twos, the TEAMS (as bits, first and second)")
    static void promise24_numbersThatWrapRoundToATeam() {
        FairQueue x = Edges.manyPlayers(16, 1);
        x.wait(0, -1, -1);
        x.wait(15, -1, -1);
        dueCheck("the first and the last of 16", x, 0, 1, 32768);
        dueCheck("65537", x, 1, 65537, 32768);
        dueCheck("-32768", x, 1, 1, -32768);
        dueCheck("LEAST and 1", x, 1, Edges.LEAST + 1, 32768);
        dueCheck("-1", x, 1, -1, -1);
    }

    @Says("of the MATCHES that a TICK would make now, in order")
    static void promise24_asManyAsThereIsRoomFor() {
        FairQueue x = fiveToCome();
        x.tick();
        x.wait(10, -1, -1);
        x.wait(11, -1, -1);
        dueCheck("none where five go on", x, 0);
        dueCheck("one where five go on", x, 99, 1 << 10, 1 << 11);
        x.end(2, 1);
        x.wait(4, -1, -1);
        x.wait(5, -1, -1);
        dueCheck("one where four go on", x, 0, 1 << 10, 1 << 11);
        dueCheck("two where four go on", x, 99, 1 << 10, 1 << 11, 1 << 4, 1 << 5);
        x.drop(0);
        dueCheck("two where three go on", x, 0, 1 << 10, 1 << 11, 1 << 4, 1 << 5);
        dueCheck("not in order", x, 1, 1 << 4, 1 << 5, 1 << 10, 1 << 11);
    }

    @Says("of the MATCHES that a TICK would make now, in order")
    static void promise24_byTheBoundsOfNow() {
        FairQueue x = Edges.manyPlayers(2, 1);
        x.shift(0, 0, 1, 7);
        x.bounds(5, 1, 7);
        Edges.ticks(x, 3);
        Edges.waitAlone(x, 0, 1);
        for (int i = 0; i < 2; i++) {
            dueCheck("one that is too uneven yet", x, 99, 1, 2);
            dueCheck("none", x, 0);
            Edges.due("none is made", x.tick(), 0);
        }
        dueCheck("one that is just within the BOUND", x, 0, 1, 2);
        dueCheck("none", x, 1);
        Edges.due("it is made", x.tick(), 1);
    }

    @Says("Nothing is made")
    static void promise24_nothingIsMade() {
        FairQueue x = fiveToCome();
        tellFirst(x, 10);
        Edges.due("check", x.check(), 0);
        Edges.due("the TICK", x.count(1), 0);
        Edges.due("ten wait", x.count(2), 10);
        Edges.due("none goes on", x.count(3), 0);
        Edges.due("no MATCH 0", x.match(0, 0), Edges.NONE);
        Edges.due("the first waits since now", x.waited(0, false), 0);
        Edges.due("its PAIRING", x.pairing(0, 2), 2);
        for (int k = 1; k <= 5; k++) {
            Edges.due("no finding but that of match: " + k, x.found(k), k == 2 ? 1 : 0);
        }
        Edges.due("the tick makes them", x.tick(), 5);
        Edges.due("in order", x.match(4, 0), 256);
    }

    @Says("(none do then)")
    static void promise24_noneWaitsThenWhateverItAnswers() {
        FairQueue x = Edges.busy();
        Edges.due("wrong ones", x.check(), 1);
        Edges.due("none waits", x.count(5), 0);
        Edges.due("the next number is the first", x.tell(1), 1);
    }

    // ---- promise 25

    @Says("0 players, 1 the TICK, 2 PARTIES that wait, 3 MATCHES that go on, 4 MATCHES that ended, 5 numbers that wait, 6 T")
    static void promise25_allThatCanBe() {
        FairQueue x = Edges.busy();
        long[] due = {16, 2, 10, 1, 1, 20, 2};
        for (int what = 0; what <= 6; what++) {
            Edges.due("count(" + what + ")", x.count(what), due[what]);
        }
        FairQueue y = Edges.manyPlayers(10, 1);
        Edges.waitAlone(y, 0, 9);
        y.tick();
        Edges.due("five go on", y.count(3), 5);
        Edges.due("none waits", y.count(2), 0);
        Edges.due("none ended", y.count(4), 0);
    }

    @Says("4 MATCHES that ended")
    static void promise25_endedByEndAndByDrop() {
        FairQueue x = Edges.duel(0, 0);
        x.bounds(10000000, 0, 10000000);
        x.end(0, 1);
        Edges.due("by end", x.count(4), 1);
        Edges.again(x);
        x.drop(0);
        Edges.due("by drop", x.count(4), 2);
        x.drop(0);
        x.end(0, 1);
        Edges.due("by none", x.count(4), 2);
        for (int i = 3; i <= 12; i++) {
            Edges.again(x);
            x.end(0, i % 3);
            Edges.due("more than can go on at once", x.count(4), i);
        }
    }

    @Says("BEYOND: another what")
    static void promise25_beyondAnotherWhat() {
        for (int what : new int[] {-1, 7, 8, 256, 65536, Edges.LEAST, Edges.MOST}) {
            Edges.refused("count(" + what + ")", FairQueue::new, x -> x.count(what), Edges.BEYOND);
            Edges.refused("count(" + what + ")", Edges::busy, x -> x.count(what), Edges.BEYOND);
        }
    }

    // ---- promise 26

    @Says({"FINDINGS are answers below -999999999: LOW is -1000000000; LOW - 1 BEYOND, LOW - 2 NONE, LOW - 3 STATE, "
        + "LOW - 4 FULL, LOW - 5 KIND", "All acts answer longs", "How many acts have answered a finding LOW - k (k 1 .. 5)"})
    static void promise26_eachFindingByItself() {
        Edges.Act[] acts = {x -> x.mean(16), x -> x.leave(14), x -> x.season(), x -> x.player(0), x -> x.as(0, 1)};
        for (int k = 1; k <= 5; k++) {
            FairQueue x = Edges.busy();
            for (int times = 1; times <= 3; times++) {
                Edges.due("finding " + k, acts[k - 1].on(x), -1000000000L - k);
                for (int other = 1; other <= 5; other++) {
                    Edges.due("found(" + other + ") behind " + k, x.found(other), other == k ? times : 0);
                }
            }
        }
    }

    @Says("BEYOND: another k (counted, too)")
    static void promise26_beyondAnotherK() {
        for (int k : new int[] {0, 6, -1, 7, 257, 65537, Edges.LEAST, Edges.MOST}) {
            Edges.refused("found(" + k + ")", FairQueue::new, x -> x.found(k), Edges.BEYOND);
            Edges.refused("found(" + k + ")", Edges::busy, x -> x.found(k), Edges.BEYOND);
        }
    }

    @Says({"BEYOND: another k (counted, too)", "How many acts have answered a finding"})
    static void promise26_countedOnceEach() {
        FairQueue x = new FairQueue();
        Edges.due("none yet", x.found(1), 0);
        Edges.due("that was no finding", x.found(1), 0);
        for (int i = 1; i <= 100; i++) {
            x.found(i % 2 == 0 ? 0 : 6);
        }
        Edges.due("a hundred", x.found(1), 100);
        Edges.due("no NONE", x.found(2), 0);
    }

    /** A SURPRISE is below 0, but no finding; nor is what a check answers. */
    @Says("How many acts have answered a finding LOW - k")
    static void promise26_otherAnswersAreNotCounted() {
        FairQueue x = Edges.duel(0, 0);
        x.end(0, 0);
        Edges.due("below 0", x.surprise(0, 0), -500000);
        x.tell(1);
        Edges.due("more were told", x.check(), 99);
        x.bounds(10000000, 0, 10000000);
        Edges.waitAlone(x, 0, 1);
        Edges.due("one is missing", x.check(), 1);
        Edges.due("nobody is sinking", x.sinking(), 0);
        Edges.due("a match", x.tick(), 1);
        Edges.due("no match", x.tick(), 0);
        for (int k = 1; k <= 5; k++) {
            Edges.due("found(" + k + ")", x.found(k), 0);
        }
    }
}
