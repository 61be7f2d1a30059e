import java.util.ArrayDeque;
import java.util.ArrayList;
import java.util.Arrays;
import java.util.Deque;
import java.util.LinkedHashMap;
import java.util.List;
import java.util.Map;
import java.util.function.ToIntFunction;

/**
 * Each sentence of the document that names a boundary case, with a test of its own; the answers are worked out by hand.
 * No object is used for more than the 512 calls that the document promises.
 */
public final class EdgeTests {
    private static final int BAD = -1, FULL = -2, NULL_FAILURE = -11, FULL_FAILURE = -30;
    private static final int PLAIN = 0, POINTS = 1, BRIDGE = 2;
    private static final int ALONE = 0, TWO_BY_TWO = 1, ALL = 2, FIRST = 3, ROUND = 4;
    private static final int NUMBER = 0, KIND = 1, LIMIT = 2, MARK = 3, AXLES = 4, LEG = 5, CLAIMS = 6, HELD = 7, MOST = 8;
    private static final int LEAST_INT = Integer.MIN_VALUE, MOST_INT = Integer.MAX_VALUE;
    // A route that no test leads otherwise: loads and turns sections ahead of what is tested.
    private static final int YARD = 5;

    private static int wrong = 0;
    private static int checks = 0;
    private static String sentence = "";

    public static void main(String[] args) {
        sections();
        claims();
        passes();
        routes();
        ways();
        refusals();
        calls();
        System.out.println(wrong == 0 ? "all edges hold" : wrong + " answers are not as due");
        if (wrong != 0) System.exit(1);
    }

    private static void sections() {
        edge("at most 512 calls after it has been made", EdgeTests::all512Calls);
        edge("PLACES 0 .. 11", EdgeTests::placesFirstAndLast);
        edge("PLACES have a SECTION or none (at first)", EdgeTests::noneAtFirst);
        edge("one SECTION may stand at several", EdgeTests::oneAtAllPlaces);
        edge("SECTIONS are numbered as they are made (0 on)", EdgeTests::numbersFromZero);
        edge("a KIND (0 PLAIN; 1 POINTS; 2 BRIDGE)", EdgeTests::kinds);
        edge("AXLES (0), a LEG (0), CLAIMS (0), HELD (0), the MOST that HELD was (0)", EdgeTests::newSectionIsAtZero);
    }

    private static void claims() {
        edge("TO CLAIM: HELD is 1 more, CLAIMS 1 more; 1000 and its number is left", EdgeTests::claimsAndMost);
        edge("150 at most; more are lost: below it", EdgeTests::traceBelowItsRoom);
        edge("150 at most; more are lost: beyond it", EdgeTests::traceBeyondItsRoom);
        edge("what is lost is claimed and let all the same", EdgeTests::lostNumbersAreStillClaims);
        edge("a trace that was full begins anew", EdgeTests::fullTraceBeginsAnew);
        edge("whichever way it ends, each is let go once, the latest first", EdgeTests::everyEndingLetsAll);
    }

    private static void passes() {
        edge("FAILURE 20 FULL, if AXLES and n are above LIMIT; else AXLES are n more", EdgeTests::limitOfPlain);
        edge("FULL at LIMIT 0 and at LIMIT 100000", EdgeTests::leastAndMostLimit);
        edge("FULL of POINTS and of a BRIDGE", EdgeTests::limitOfPointsAndBridge);
        edge("POINTS: if the LEG is 1, it becomes 0: 1; else it becomes 1", EdgeTests::legTurns);
        edge("BRIDGE: 2, if n is above MARK", EdgeTests::markOfBridge);
        edge("BRIDGE at MARK 0 and at MARK 100000", EdgeTests::leastAndMostMark);
        edge("if it told 0, MARK is 1 less", EdgeTests::markStaysUnlessPassed);
        edge("MARK is a BRIDGE's alone", EdgeTests::markOfOthersIsNotLookedAt);
    }

    private static void routes() {
        edge("ROUTES 0 .. 5", EdgeTests::routesFirstAndLast);
        edge("rows of up to 8 PLACES", EdgeTests::eightPlaces);
        edge("n AXLES (0 .. 1000)", EdgeTests::axlesOfRun);
        edge("what stands there when it is come to", EdgeTests::sectionWhenComeTo);
        edge("FAILURE 1 NULL, if it has none", EdgeTests::nullAtEachIndex);
        edge("PASSED counts PASSES that told 0", EdgeTests::passedCountsZeroAlone);
        edge("It answers PASSED; -10 less a FAILURE", EdgeTests::answersOfEmptyRoute);
        edge("What was done ahead of a FAILURE stays", EdgeTests::doneAheadOfFailureStays);
    }

    private static void ways() {
        edge("ALONE: told 1, the RUN ends", EdgeTests::turnedEndsAtEachIndex);
        edge("-100 less the index of that PLACE in the ROUTE (0 on)", EdgeTests::refusedAtEachIndex);
        edge("the index, where one PLACE is in the ROUTE twice", EdgeTests::refusedAtSecondVisit);
        edge("TWO BY TWO: if there is a next one", EdgeTests::noNextBehindLast);
        edge("TWO BY TWO: NULL likewise", EdgeTests::nextIsNull);
        edge("TWO BY TWO: till that PASS is done", EdgeTests::nextIsHeldOnce);
        edge("ALL: none is CLAIMED for that once more from outside", EdgeTests::allClaimsOnce);
        edge("FIRST: one without a SECTION is passed over", EdgeTests::firstPassesOverNone);
        edge("FIRST: if AXLES and n are above LIMIT", EdgeTests::firstLooksAtLimit);
        edge("FIRST: or its LEG is 1", EdgeTests::firstLooksAtLeg);
        edge("FIRST: (Told 2 as above.)", EdgeTests::firstIsRefused);
        edge("ROUND: ten times round at most", EdgeTests::tenRounds);
        edge("ROUND: behind the last PLACE it begins with the first again", EdgeTests::roundWraps);
        edge("ROUND: (a ROUTE without PLACES: none)", EdgeTests::roundOfNone);
    }

    private static void refusals() {
        edge("BAD -1: there is no such thing, or a number is not as told: they change nothing", EdgeTests::badChangesNothing);
        edge("FULL -2: they change nothing", EdgeTests::fullChangesNothing);
    }

    private static void calls() {
        edge("1: No SECTIONS, ROUTES without PLACES", EdgeTests::newObject);
        edge("2: LIMIT or MARK below 0, or above 100000", EdgeTests::limitAndMark);
        edge("3: PLACE to has what PLACE from has, or none", EdgeTests::shareOrNone);
        edge("4: whether it had one", EdgeTests::removeTwice);
        edge("5: or none both", EdgeTests::sameOrNoneBoth);
        edge("6: how many. BAD; FULL", EdgeTests::leadUpToFull);
        edge("7: how many it had", EdgeTests::unleadFromNoneToEight);
        edge("8: BAD: also n, WAY", EdgeTests::wayFirstAndLast);
        edge("9: n (0 .. 1000) AXLES", EdgeTests::axlesOfShunt);
        edge("9: 0, and nothing goes, if the first has not so many", EdgeTests::shuntOfTooMany);
        edge("9: or the other would have more than its LIMIT", EdgeTests::shuntOverLimit);
        edge("9: (not looked at where both are one)", EdgeTests::shuntOntoItself);
        edge("9: -11: one is not there", EdgeTests::shuntWithoutOne);
        edge("10: 0 before one", EdgeTests::passedBeforeRun);
        edge("10: also one that FAILED", EdgeTests::passedOfFailed);
        edge("11: k -1 how many numbers, else its k-th. BAD", EdgeTests::traceFirstAndLast);
        edge("11: the latest run(), shunt() that was not BAD", EdgeTests::traceOfLatest);
        edge("12: what = 0 .. 8", EdgeTests::toldFirstAndLast);
        edge("12: BAD: also a PLACE without one", EdgeTests::toldOfNone);
        edge("13: of ROUTE what - 5 how many PLACES (5 .. 10)", EdgeTests::countFirstAndLast);
        edge("13: 1 PLACES with one", EdgeTests::countOfPlaces);
        edge("13: 2 RUNS, 3 those that FAILED by NULL, 4 by FULL", EdgeTests::countOfRuns);
    }

    /** A test that looks at nothing would hold whatever the class does, so it counts as wrong. */
    private static void edge(String text, Runnable test) {
        sentence = text;
        int before = checks;
        test.run();
        if (checks == before) {
            wrong++;
            System.out.println(text + ": nothing was looked at");
        }
    }

    private static void due(String what, int got, int want) {
        checks++;
        if (got != want) {
            wrong++;
            System.out.println(sentence + ": " + what + " answered " + got + ", due is " + want);
        }
    }

    private static void dueTrace(String what, SignalBox box, int... want) {
        checks++;
        int[] got = traceOf(box);
        if (!Arrays.equals(got, want)) {
            wrong++;
            System.out.println(sentence + ": " + what + ": the trace is " + Arrays.toString(got) + ", due is " + Arrays.toString(want));
        }
    }

    private static int[] traceOf(SignalBox box) {
        int[] numbers = new int[Math.max(0, box.trace(-1))];
        for (int k = 0; k < numbers.length; k++) numbers[k] = box.trace(k);
        return numbers;
    }

    private static SignalBox routeOf(int... places) {
        SignalBox box = new SignalBox();
        for (int place : places) box.lead(0, place);
        return box;
    }

    /** Places 0 on, each with a plain section of its own (number = place), all of them route 0. */
    private static SignalBox plainRoute(int length, int limit) {
        SignalBox box = new SignalBox();
        for (int place = 0; place < length; place++) {
            box.section(place, PLAIN, limit, 0);
            box.lead(0, place);
        }
        return box;
    }

    /** Sends n axles onto a place alone: loads it, and turns points and bridges. */
    private static void send(SignalBox box, int place, int n) {
        box.lead(YARD, place);
        box.run(YARD, ALONE, n);
        box.unlead(YARD);
    }

    // ---- sections

    private static void all512Calls() {
        SignalBox sections = new SignalBox();
        for (int i = 0; i < 511; i++) sections.section(i % 12, PLAIN, 1, 1);
        due("the 512th call, a section", sections.section(0, PLAIN, 1, 1), 511);

        SignalBox trace = new SignalBox();
        for (int i = 0; i < 509; i++) trace.section(0, PLAIN, 1, 1);
        trace.lead(0, 0);
        trace.run(0, ALONE, 0);
        due("the 512th call, a trace", trace.trace(3), 2508);

        SignalBox runs = plainRoute(1, 0);
        for (int i = 1; i < 8; i++) runs.lead(0, 0);
        for (int i = 9; i < 511; i++) runs.run(0, ROUND, 0);
        due("the 512th call, claims", runs.told(0, CLAIMS), 502 * 160);
    }

    private static void placesFirstAndLast() {
        for (int place : new int[] {0, 11}) {
            SignalBox box = new SignalBox();
            due("section at " + place, box.section(place, PLAIN, 5, 0), 0);
            due("share onto itself at " + place, box.share(place, place), 1);
            due("same at " + place, box.same(place, place), 1);
            due("lead to " + place, box.lead(0, place), 1);
            due("run over " + place, box.run(0, ALONE, 5), 1);
            due("shunt at " + place, box.shunt(place, place, 5), 1);
            due("told of " + place, box.told(place, AXLES), 5);
            due("remove at " + place, box.remove(place), 1);
        }
        for (int place : new int[] {-1, 12, LEAST_INT, MOST_INT}) {
            SignalBox box = plainRoute(1, 5);
            due("section at " + place, box.section(place, PLAIN, 5, 0), BAD);
            due("share from " + place, box.share(place, 0), BAD);
            due("share to " + place, box.share(0, place), BAD);
            due("remove at " + place, box.remove(place), BAD);
            due("same of " + place, box.same(place, 0), BAD);
            due("same with " + place, box.same(0, place), BAD);
            due("same of " + place + " twice", box.same(place, place), BAD);
            due("lead to " + place, box.lead(0, place), BAD);
            due("shunt from " + place, box.shunt(place, 0, 0), BAD);
            due("shunt to " + place, box.shunt(0, place, 0), BAD);
            due("told of " + place, box.told(place, NUMBER), BAD);
        }
    }

    private static void noneAtFirst() {
        SignalBox box = new SignalBox();
        due("places with one", box.count(1), 0);
        for (int place = 0; place < 12; place++) {
            due("told of " + place, box.told(place, NUMBER), BAD);
            due("share of " + place, box.share(place, place), 0);
            due("same of " + place + " and 0", box.same(place, 0), 1);
            due("remove at " + place, box.remove(place), 0);
        }
    }

    private static void oneAtAllPlaces() {
        SignalBox box = new SignalBox();
        box.section(0, PLAIN, 100, 0);
        for (int place = 1; place < 12; place++) due("share with " + place, box.share(place - 1, place), 1);
        due("made", box.count(0), 1);
        due("places with one", box.count(1), 12);
        for (int place = 4; place < 12; place++) box.lead(0, place);
        due("a run over eight of them", box.run(0, ALL, 1), 8);
        due("one section passed eight times", box.told(0, AXLES), 8);
        due("and was held nine times at once", box.told(0, MOST), 9);
        for (int place = 0; place < 11; place++) box.remove(place);
        due("the last place keeps it as it is", box.told(11, AXLES), 8);
    }

    private static void numbersFromZero() {
        SignalBox box = new SignalBox();
        due("refused ahead of the first", box.section(0, 3, 1, 1), BAD);
        due("the first", box.section(11, PLAIN, 1, 1), 0);
        due("the second, at the same place", box.section(11, PLAIN, 1, 1), 1);
        due("refused between", box.section(11, PLAIN, -1, 1), BAD);
        due("the third", box.section(0, PLAIN, 1, 1), 2);
        box.share(0, 1);
        box.remove(0);
        box.remove(1);
        due("a number that is gone is not given again", box.section(0, PLAIN, 1, 1), 3);
        due("made", box.count(0), 4);
    }

    private static void kinds() {
        SignalBox box = new SignalBox();
        for (int kind : new int[] {-1, 3, LEAST_INT, MOST_INT}) due("kind " + kind, box.section(0, kind, 1, 1), BAD);
        due("none stands", box.told(0, KIND), BAD);
        for (int kind = PLAIN; kind <= BRIDGE; kind++) {
            box.section(kind, kind, 1, 1);
            due("kind " + kind, box.told(kind, KIND), kind);
        }
    }

    private static void newSectionIsAtZero() {
        for (int kind = PLAIN; kind <= BRIDGE; kind++) {
            SignalBox box = routeOf(0);
            box.section(0, BRIDGE, 9, 9);
            box.run(0, ALONE, 2);
            due("a new one where an old one stood, kind " + kind, box.section(0, kind, 100000, 7), 1);
            int[] fresh = {1, kind, 100000, 7, 0, 0, 0, 0, 0};
            for (int what = NUMBER; what <= MOST; what++) due("told(0, " + what + ")", box.told(0, what), fresh[what]);
        }
    }

    // ---- claims and the trace

    private static void claimsAndMost() {
        int[] heldBy = {2, 3, 4};
        for (int kind = PLAIN; kind <= BRIDGE; kind++) {
            SignalBox box = routeOf(0);
            box.section(0, kind, 100, 100);
            box.run(0, ALONE, 1);
            due("most, kind " + kind, box.told(0, MOST), heldBy[kind]);
            due("claims, kind " + kind, box.told(0, CLAIMS), heldBy[kind]);
            due("held, kind " + kind, box.told(0, HELD), 0);
            due("numbers, kind " + kind, box.trace(-1), 2 * heldBy[kind]);
            box.shunt(0, 0, 0);
            due("most is no less behind fewer claims, kind " + kind, box.told(0, MOST), heldBy[kind]);
            due("claims go on, kind " + kind, box.told(0, CLAIMS), heldBy[kind] + 2);
        }
        SignalBox eight = routeOf(0, 0, 0, 0, 0, 0, 0, 0);
        eight.section(0, BRIDGE, 100, 100);
        due("the second of eight turns", eight.run(0, ALL, 1), 1);
        due("eight from outside, three by the pass", eight.told(0, MOST), 11);
        due("claims of both passes", eight.told(0, CLAIMS), 8 + 3 + 2);
        due("held", eight.told(0, HELD), 0);
    }

    /** Four plain sections, 16 numbers a round; the one at fullPlace has room for nine rounds alone. */
    private static SignalBox fourTimesRound(int fullPlace) {
        SignalBox box = plainRoute(4, 100);
        box.section(fullPlace, PLAIN, 9, 0);
        box.run(0, ROUND, 1);
        return box;
    }

    private static void traceBelowItsRoom() {
        SignalBox box = fourTimesRound(0);
        due("36 passes and a failure", box.trace(-1), 148);
        due("the last number", box.trace(147), 2004);
        due("none behind it", box.trace(148), BAD);
        due("the 150th is not there", box.trace(149), BAD);
    }

    private static void traceBeyondItsRoom() {
        SignalBox box = fourTimesRound(1);
        due("37 passes and a failure, 152 numbers", box.trace(-1), 150);
        due("the 148th", box.trace(147), 2000);
        due("the 149th", box.trace(148), 1004);
        due("the 150th", box.trace(149), 1004);
        due("the 151st is lost", box.trace(150), BAD);
        due("the 152nd is lost", box.trace(151), BAD);
        SignalBox longest = plainRoute(8, 100);
        due("the longest run", longest.run(0, ROUND, 1), 80);
        due("320 numbers", longest.trace(-1), 150);
        for (int k = 0; k < 150; k++) due("trace(" + k + ")", longest.trace(k), (k % 4 < 2 ? 1000 : 2000) + k / 4 % 8);
        due("trace(150)", longest.trace(150), BAD);
        due("trace(319)", longest.trace(319), BAD);
    }

    private static void lostNumbersAreStillClaims() {
        SignalBox box = fourTimesRound(1);
        due("claims of the last", box.told(1, CLAIMS), 20);
        due("held by none", box.told(1, HELD), 0);
        SignalBox longest = plainRoute(8, 100);
        longest.run(0, ROUND, 1);
        for (int place = 0; place < 8; place++) {
            due("claims at " + place, longest.told(place, CLAIMS), 20);
            due("held at " + place, longest.told(place, HELD), 0);
            due("axles at " + place, longest.told(place, AXLES), 10);
        }
    }

    private static void fullTraceBeginsAnew() {
        SignalBox box = plainRoute(8, 100);
        box.run(0, ROUND, 0);
        box.shunt(1, 2, 0);
        dueTrace("a shunt", box, 1001, 1002, 2002, 2001);
        box.run(0, ROUND, 0);
        box.run(1, ALONE, 0);
        dueTrace("an empty run", box);
        box.run(0, ROUND, 0);
        due("full again", box.trace(-1), 150);
        due("its first", box.trace(0), 1000);
    }

    /** Stands one of seven things at a place, so that every ending is met at every index. */
    private static void stand(SignalBox box, int place, int thing) {
        switch (thing) {
            case 0: box.remove(place); break;
            case 1: box.section(place, PLAIN, 100, 0); break;
            case 2: box.section(place, PLAIN, 2, 0); break;
            case 3: box.section(place, POINTS, 100, 0); break;
            case 4: box.section(place, POINTS, 100, 0); send(box, place, 0); break;
            case 5: box.section(place, BRIDGE, 100, 2); break;
            default: box.section(place, BRIDGE, 100, 9);
        }
    }

    private static void everyEndingLetsAll() {
        int things = 7;
        for (int mix = 0; mix < things * things * things; mix++) {
            for (int way = ALONE; way <= ROUND; way++) {
                SignalBox box = routeOf(0, 1, 2, 0);
                stand(box, 0, mix % things);
                stand(box, 1, mix / things % things);
                stand(box, 2, mix / things / things);
                box.run(0, way, 3);
                dueNested("mix " + mix + ", way " + way, traceOf(box));
                for (int place = 0; place < 3; place++) {
                    if (box.told(place, NUMBER) != BAD) due("mix " + mix + ", way " + way + ", held at " + place, box.told(place, HELD), 0);
                }
            }
        }
    }

    private static void dueNested(String what, int[] trace) {
        Deque<Integer> open = new ArrayDeque<>();
        boolean nested = true;
        for (int number : trace) {
            if (number < 2000) open.push(number - 1000);
            else nested &= !open.isEmpty() && open.pop() == number - 2000;
        }
        // A trace that is full ends wherever its room ends.
        boolean ended = open.isEmpty() || trace.length == 150;
        due(what + ": nested in " + Arrays.toString(trace), nested && ended ? 1 : 0, 1);
    }

    // ---- passes

    private static void limitOfPlain() {
        SignalBox box = routeOf(0);
        box.section(0, PLAIN, 10, 0);
        due("one below the limit", box.run(0, ALONE, 9), 1);
        due("above it by one", box.run(0, ALONE, 2), FULL_FAILURE);
        due("above it by all", box.run(0, ALONE, 1000), FULL_FAILURE);
        due("axles stay", box.told(0, AXLES), 9);
        due("up to it", box.run(0, ALONE, 1), 1);
        due("axles at the limit", box.told(0, AXLES), 10);
        due("none more", box.run(0, ALONE, 0), 1);
        due("one more", box.run(0, ALONE, 1), FULL_FAILURE);
        due("axles stay at the limit", box.told(0, AXLES), 10);
        dueTrace("a failure", box, 1000, 1000, 2000, 2000);
    }

    private static void leastAndMostLimit() {
        SignalBox least = routeOf(0);
        least.section(0, PLAIN, 0, 0);
        due("limit 0, one", least.run(0, ALONE, 1), FULL_FAILURE);
        due("limit 0, none", least.run(0, ALONE, 0), 1);
        SignalBox most = routeOf(0);
        most.section(0, PLAIN, 100000, 0);
        for (int i = 0; i < 10; i++) due("limit 100000, ten thousand more", most.run(0, ROUND, 1000), 10);
        due("axles", most.told(0, AXLES), 100000);
        due("limit 100000, one more", most.run(0, ALONE, 1), FULL_FAILURE);
        due("limit 100000, a thousand more", most.run(0, ALONE, 1000), FULL_FAILURE);
        due("limit 100000, none more", most.run(0, ALONE, 0), 1);
        due("axles stay", most.told(0, AXLES), 100000);
        SignalBox thousand = routeOf(0);
        thousand.section(0, PLAIN, 999, 0);
        due("limit 999, a thousand", thousand.run(0, ALONE, 1000), FULL_FAILURE);
        thousand.section(0, PLAIN, 1000, 0);
        due("limit 1000, a thousand", thousand.run(0, ALONE, 1000), 1);
    }

    private static void limitOfPointsAndBridge() {
        int[][] failed = {{1000, 1000, 1000, 2000, 2000, 2000}, {1000, 1000, 1000, 1000, 2000, 2000, 2000, 2000}};
        for (int kind = POINTS; kind <= BRIDGE; kind++) {
            SignalBox box = routeOf(0);
            box.section(0, kind, 10, 1000);
            due("above the limit, kind " + kind, box.run(0, ALONE, 11), FULL_FAILURE);
            dueTrace("above the limit, kind " + kind, box, failed[kind - POINTS]);
            due("axles stay, kind " + kind, box.told(0, AXLES), 0);
            due("the leg turned ahead of it, kind " + kind, box.told(0, LEG), 1);
            due("turned back though above, kind " + kind, box.run(0, ALONE, 11), 0);
            due("up to the limit, kind " + kind, box.run(0, ALONE, 10), 1);
            due("axles, kind " + kind, box.told(0, AXLES), 10);
        }
    }

    private static void legTurns() {
        for (int kind = POINTS; kind <= BRIDGE; kind++) {
            SignalBox box = routeOf(0);
            box.section(0, kind, 100, 100);
            for (int i = 0; i < 6; i++) {
                due("run " + i + ", kind " + kind, box.run(0, ALONE, 1), i % 2 == 0 ? 1 : 0);
                due("leg behind run " + i + ", kind " + kind, box.told(0, LEG), i % 2 == 0 ? 1 : 0);
            }
            due("half of them went, kind " + kind, box.told(0, AXLES), 3);
        }
        SignalBox plain = routeOf(0);
        plain.section(0, PLAIN, 100, 0);
        plain.run(0, ROUND, 1);
        due("a plain one has no leg to turn", plain.told(0, LEG), 0);
    }

    private static void markOfBridge() {
        SignalBox box = routeOf(0);
        box.section(0, BRIDGE, 100, 5);
        due("above by one", box.run(0, ALONE, 6), -100);
        dueTrace("above", box, 1000, 1000, 2000, 2000);
        due("the leg stays", box.told(0, LEG), 0);
        due("the mark stays", box.told(0, MARK), 5);
        due("axles stay", box.told(0, AXLES), 0);
        due("at the mark", box.run(0, ALONE, 5), 1);
        due("above the mark that is less by one", box.run(0, ALONE, 5), -100);
        due("the leg stays, though it is 1", box.told(0, LEG), 1);
        due("at the mark that is less by one", box.run(0, ALONE, 4), 0);
        SignalBox both = routeOf(0);
        both.section(0, BRIDGE, 0, 0);
        due("above mark and limit: the mark is looked at first", both.run(0, ALONE, 1), -100);
    }

    private static void leastAndMostMark() {
        SignalBox least = routeOf(0);
        least.section(0, BRIDGE, 100, 0);
        due("mark 0, one", least.run(0, ALONE, 1), -100);
        due("mark 0, none", least.run(0, ALONE, 0), 1);
        due("mark below 0", least.told(0, MARK), -1);
        due("then none goes", least.run(0, ALONE, 0), -100);
        due("and the mark stays", least.told(0, MARK), -1);
        SignalBox most = routeOf(0);
        most.section(0, BRIDGE, 100000, 100000);
        due("mark 100000, a thousand", most.run(0, ALONE, 1000), 1);
        due("the mark", most.told(0, MARK), 99999);
        most.section(0, BRIDGE, 100000, 999);
        due("mark 999, a thousand", most.run(0, ALONE, 1000), -100);
        most.section(0, BRIDGE, 100000, 1000);
        due("mark 1000, a thousand", most.run(0, ALONE, 1000), 1);
    }

    private static void markStaysUnlessPassed() {
        SignalBox box = routeOf(0);
        box.section(0, BRIDGE, 10, 9);
        box.run(0, ALONE, 8);
        due("told 0", box.told(0, MARK), 8);
        box.run(0, ALONE, 8);
        due("told 1", box.told(0, MARK), 8);
        box.run(0, ALONE, 9);
        due("told 2", box.told(0, MARK), 8);
        due("full", box.run(0, ALONE, 3), FULL_FAILURE);
        due("failed", box.told(0, MARK), 8);
    }

    private static void markOfOthersIsNotLookedAt() {
        for (int kind = PLAIN; kind <= POINTS; kind++) {
            SignalBox box = routeOf(0);
            box.section(0, kind, 1000, 0);
            due("above the mark, kind " + kind, box.run(0, ALONE, 1000), 1);
            due("the mark stays, kind " + kind, box.told(0, MARK), 0);
        }
    }

    // ---- routes and runs

    private static void routesFirstAndLast() {
        for (int route : new int[] {0, 5}) {
            SignalBox box = new SignalBox();
            box.section(0, PLAIN, 9, 0);
            due("lead " + route, box.lead(route, 0), 1);
            due("run " + route, box.run(route, ALONE, 1), 1);
            due("unlead " + route, box.unlead(route), 1);
        }
        for (int route : new int[] {-1, 6, LEAST_INT, MOST_INT}) {
            SignalBox box = new SignalBox();
            due("lead " + route, box.lead(route, 0), BAD);
            due("run " + route, box.run(route, ALONE, 0), BAD);
            due("unlead " + route, box.unlead(route), BAD);
        }
    }

    private static void eightPlaces() {
        for (int route = 0; route < 6; route++) {
            SignalBox box = new SignalBox();
            for (int place = 0; place < 12; place++) box.section(place, PLAIN, 100, 0);
            for (int i = 0; i < 8; i++) due("place " + (i + 1) + " of route " + route, box.lead(route, 11 - i), i + 1);
            due("a ninth of route " + route, box.lead(route, 0), FULL);
            for (int other = 0; other < 6; other++) due("places of " + other, box.count(5 + other), other == route ? 8 : 0);
            due("a run over the eight", box.run(route, ALONE, 1), 8);
            for (int place = 0; place < 12; place++) due("axles at " + place, box.told(place, AXLES), place < 4 ? 0 : 1);
        }
    }

    private static void axlesOfRun() {
        for (int way = ALONE; way <= ROUND; way++) {
            SignalBox box = plainRoute(1, 100000);
            for (int n : new int[] {-1, 1001, LEAST_INT, MOST_INT}) due("n " + n + ", way " + way, box.run(0, way, n), BAD);
            due("nothing was claimed", box.told(0, CLAIMS), 0);
            int rounds = way == ROUND ? 10 : 1;
            due("n 0, way " + way, box.run(0, way, 0), rounds);
            due("n 1000, way " + way, box.run(0, way, 1000), rounds);
            due("axles, way " + way, box.told(0, AXLES), 1000 * rounds);
        }
    }

    private static void sectionWhenComeTo() {
        SignalBox box = routeOf(0, 1);
        due("led ahead of any section", box.run(0, ALONE, 1), NULL_FAILURE);
        box.section(0, PLAIN, 100, 0);
        box.share(0, 1);
        due("both have one now", box.run(0, ALONE, 1), 2);
        due("the same one", box.told(0, AXLES), 2);
        box.section(1, PLAIN, 100, 0);
        due("another one", box.run(0, ALONE, 1), 2);
        due("axles of the first", box.told(0, AXLES), 3);
        due("axles of the other", box.told(1, AXLES), 1);
        box.remove(1);
        due("none again", box.run(0, ALONE, 1), NULL_FAILURE);
        due("the route has it still", box.count(5), 2);
    }

    private static void nullAtEachIndex() {
        for (int index = 0; index < 8; index++) {
            int pairs = Math.max(0, index - 1);
            dueNull(ALONE, index, index, 4 * index);
            dueNull(TWO_BY_TWO, index, pairs, 6 * pairs + (index > 0 ? 2 : 0));
            dueNull(ALL, index, 0, 2 * index);
            dueNull(ROUND, index, index, 4 * index);
        }
    }

    private static void dueNull(int way, int index, int passed, int numbers) {
        String where = ", way " + way + ", index " + index;
        SignalBox box = plainRoute(8, 100);
        box.remove(index);
        due("answer" + where, box.run(0, way, 1), NULL_FAILURE);
        due("passed" + where, box.passed(), passed);
        due("numbers" + where, box.trace(-1), numbers);
        due("failed by NULL" + where, box.count(3), 1);
        for (int place = 0; place < 8; place++) {
            if (place != index) due("axles at " + place + where, box.told(place, AXLES), place < passed ? 1 : 0);
        }
    }

    private static void passedCountsZeroAlone() {
        SignalBox box = routeOf(0);
        box.section(0, BRIDGE, 10, 10);
        due("a bridge's pass counts once", box.run(0, ALONE, 1), 1);
        due("told 1 does not count", box.run(0, ALONE, 1), 0);
        box.run(0, ALONE, 11);
        due("told 2 does not count", box.passed(), 0);
        box.section(0, PLAIN, 0, 0);
        box.run(0, ALONE, 1);
        due("a failure does not count", box.passed(), 0);
        SignalBox most = plainRoute(8, 0);
        due("eighty at most", most.run(0, ROUND, 0), 80);
    }

    private static void answersOfEmptyRoute() {
        for (int way = ALONE; way <= ROUND; way++) {
            SignalBox box = plainRoute(1, 9);
            box.run(0, ALONE, 1);
            due("an empty route, way " + way, box.run(1, way, 1), 0);
            due("its passed, way " + way, box.passed(), 0);
            due("its trace, way " + way, box.trace(-1), 0);
            due("it is a run, way " + way, box.count(2), 2);
            due("that did not fail, way " + way, box.count(3) + box.count(4), 0);
        }
    }

    private static void doneAheadOfFailureStays() {
        for (int way : new int[] {ALONE, TWO_BY_TWO, ALL, ROUND}) {
            SignalBox box = routeOf(0, 1, 2, 3);
            box.section(0, PLAIN, 100, 0);
            box.section(1, POINTS, 100, 0);
            box.section(2, BRIDGE, 100, 50);
            box.section(3, PLAIN, 1, 0);
            due("full at the last, way " + way, box.run(0, way, 2), FULL_FAILURE);
            due("passed, way " + way, box.passed(), 3);
            for (int place = 0; place < 3; place++) due("axles at " + place + ", way " + way, box.told(place, AXLES), 2);
            due("leg of the points, way " + way, box.told(1, LEG), 1);
            due("leg of the bridge, way " + way, box.told(2, LEG), 1);
            due("mark, way " + way, box.told(2, MARK), 49);
            due("the full one has none, way " + way, box.told(3, AXLES), 0);
        }
    }

    // ---- ways

    private static void turnedEndsAtEachIndex() {
        for (int way : new int[] {ALONE, TWO_BY_TWO, ALL, ROUND}) {
            for (int index = 0; index < 8; index++) {
                String where = ", way " + way + ", index " + index;
                SignalBox box = plainRoute(8, 100);
                box.section(index, POINTS, 100, 0);
                send(box, index, 0);
                due("answer" + where, box.run(0, way, 1), index);
                due("leg" + where, box.told(index, LEG), 0);
                due("the last" + where, box.told(7, AXLES), 0);
                due("no failure" + where, box.count(3) + box.count(4), 0);
            }
        }
    }

    private static void refusedAtEachIndex() {
        for (int way = ALONE; way <= ROUND; way++) {
            for (int index = 0; index < 8; index++) {
                String where = ", way " + way + ", index " + index;
                // FIRST comes to the bridge only past sections without room.
                SignalBox box = plainRoute(8, way == FIRST ? 0 : 100);
                box.section(index, BRIDGE, 100, 0);
                due("answer" + where, box.run(0, way, 1), -100 - index);
                due("passed" + where, box.passed(), way == FIRST ? 0 : index);
                due("axles" + where, box.told(index, AXLES), 0);
                due("no failure" + where, box.count(3) + box.count(4), 0);
            }
        }
    }

    private static void refusedAtSecondVisit() {
        for (int way : new int[] {ALONE, ALL, TWO_BY_TWO}) {
            SignalBox box = routeOf(0, 1, 0);
            box.section(0, BRIDGE, 100, 3);
            box.section(1, PLAIN, 100, 0);
            due("the third of the route, way " + way, box.run(0, way, 3), -102);
            due("passed, way " + way, box.passed(), 2);
        }
        SignalBox round = routeOf(1, 0);
        round.section(0, BRIDGE, 100, 3);
        round.section(1, PLAIN, 100, 0);
        due("in the second round, counted in the route", round.run(0, ROUND, 3), -101);
        due("passed in both rounds", round.passed(), 3);
    }

    private static void noNextBehindLast() {
        SignalBox one = plainRoute(1, 100);
        due("one place", one.run(0, TWO_BY_TWO, 1), 1);
        dueTrace("one place", one, 1000, 1000, 2000, 2000);
        SignalBox two = plainRoute(2, 100);
        due("two places", two.run(0, TWO_BY_TWO, 1), 2);
        dueTrace("two places", two, 1000, 1001, 1000, 2000, 2001, 2000, 1001, 1001, 2001, 2001);
        SignalBox eight = plainRoute(8, 100);
        eight.lead(1, 8);
        due("eight places, then another route", eight.run(0, TWO_BY_TWO, 1), 8);
        due("seven with a next, one without", eight.trace(-1), 7 * 6 + 4);
        due("the last passes alone", eight.trace(43), 1007);
    }

    private static void nextIsNull() {
        SignalBox box = routeOf(0, 1);
        box.section(0, BRIDGE, 100, 9);
        due("the next is not there", box.run(0, TWO_BY_TWO, 1), NULL_FAILURE);
        dueTrace("the next is not there", box, 1000, 2000);
        due("its pass is not done", box.told(0, LEG) + box.told(0, AXLES), 0);
        due("nor refused", box.run(0, TWO_BY_TWO, 10), NULL_FAILURE);
        box.section(1, PLAIN, 100, 0);
        box.remove(0);
        due("the first is not there", box.run(0, TWO_BY_TWO, 1), NULL_FAILURE);
        dueTrace("the first is not there", box);
        due("the next is not come to", box.told(1, CLAIMS), 0);
    }

    private static void nextIsHeldOnce() {
        SignalBox box = routeOf(0, 0);
        box.section(0, PLAIN, 100, 0);
        due("next to itself", box.run(0, TWO_BY_TWO, 1), 2);
        dueTrace("next to itself", box, 1000, 1000, 1000, 2000, 2000, 2000, 1000, 1000, 2000, 2000);
        due("most", box.told(0, MOST), 3);
        SignalBox full = plainRoute(2, 0);
        due("full with the next claimed", full.run(0, TWO_BY_TWO, 1), FULL_FAILURE);
        dueTrace("full with the next claimed", full, 1000, 1001, 1000, 2000, 2001, 2000);
        full.section(0, BRIDGE, 100, 0);
        due("refused with the next claimed", full.run(0, TWO_BY_TWO, 1), -100);
        dueTrace("refused with the next claimed", full, 1002, 1001, 1002, 2002, 2001, 2002);
    }

    private static void allClaimsOnce() {
        SignalBox one = plainRoute(1, 100);
        due("one place", one.run(0, ALL, 1), 1);
        dueTrace("one place", one, 1000, 1000, 2000, 2000);
        SignalBox eight = plainRoute(8, 100);
        due("eight places", eight.run(0, ALL, 1), 8);
        due("two claims each", eight.trace(-1), 32);
        for (int k = 0; k < 8; k++) {
            due("claimed in order", eight.trace(k), 1000 + k);
            due("passes in order", eight.trace(8 + 2 * k), 1000 + k);
            due("let, the latest first", eight.trace(24 + k), 2007 - k);
        }
        SignalBox turned = routeOf(0, 0);
        turned.section(0, POINTS, 100, 0);
        due("one section turns itself away", turned.run(0, ALL, 1), 1);
        dueTrace("turned", turned, 1000, 1000, 1000, 1000, 2000, 2000, 1000, 2000, 2000, 2000);
    }

    private static void firstPassesOverNone() {
        SignalBox box = routeOf(7, 6, 5, 4, 3, 2, 1, 0);
        due("none at all", box.run(0, FIRST, 1), 0);
        dueTrace("none at all", box);
        due("that is no failure", box.count(3), 0);
        box.section(0, PLAIN, 1, 0);
        due("the last alone", box.run(0, FIRST, 1), 1);
        dueTrace("the last alone", box, 1000, 1000, 2000, 2000);
        box.section(7, PLAIN, 1, 0);
        due("the first, none behind it looked at", box.run(0, FIRST, 1), 1);
        dueTrace("the first", box, 1001, 1001, 2001, 2001);
    }

    private static void firstLooksAtLimit() {
        SignalBox box = routeOf(0, 1);
        box.section(0, PLAIN, 5, 0);
        box.section(1, PLAIN, 100, 0);
        due("above by one", box.run(0, FIRST, 6), 1);
        dueTrace("above by one", box, 1000, 2000, 1001, 1001, 2001, 2001);
        due("up to the limit", box.run(0, FIRST, 5), 1);
        due("the first took them", box.told(0, AXLES), 5);
        due("none more", box.run(0, FIRST, 0), 1);
        dueTrace("none more", box, 1000, 1000, 2000, 2000);
        due("too many for both", box.run(0, FIRST, 1000), 0);
        dueTrace("too many for both", box, 1000, 2000, 1001, 2001);
        due("that is no failure", box.count(4), 0);
        due("axles of the other", box.told(1, AXLES), 6);
    }

    private static void firstLooksAtLeg() {
        for (int kind = POINTS; kind <= BRIDGE; kind++) {
            SignalBox box = routeOf(0, 0);
            box.section(0, kind, 100, 100);
            due("leg 0, kind " + kind, box.run(0, FIRST, 1), 1);
            due("once alone, kind " + kind, box.told(0, AXLES), 1);
            due("leg 1, kind " + kind, box.run(0, FIRST, 1), 0);
            dueTrace("leg 1, kind " + kind, box, 1000, 2000, 1000, 2000);
            due("the leg stays, kind " + kind, box.told(0, LEG), 1);
        }
    }

    private static void firstIsRefused() {
        SignalBox box = routeOf(9, 0, 1, 2);
        box.section(0, POINTS, 100, 0);
        send(box, 0, 0);
        box.section(1, BRIDGE, 100, 4);
        box.section(2, PLAIN, 100, 0);
        due("refused at index 2", box.run(0, FIRST, 5), -102);
        dueTrace("refused", box, 1000, 2000, 1001, 1001, 2001, 2001);
        due("the next is not looked at", box.told(2, CLAIMS), 0);
        due("at the mark", box.run(0, FIRST, 4), 1);
        due("leg 1 is looked at ahead of the mark", box.run(0, FIRST, 5), 1);
        due("the next took them", box.told(2, AXLES), 5);
        SignalBox full = routeOf(0, 1);
        full.section(0, BRIDGE, 3, 0);
        full.section(1, PLAIN, 100, 0);
        due("the limit is looked at ahead of the mark", full.run(0, FIRST, 4), 1);
        due("the next took them", full.told(1, AXLES), 4);
    }

    private static void tenRounds() {
        SignalBox box = plainRoute(1, 10);
        due("ten rounds of one place", box.run(0, ROUND, 1), 10);
        due("axles", box.told(0, AXLES), 10);
        due("numbers", box.trace(-1), 40);
        SignalBox nine = plainRoute(1, 9);
        due("full in the tenth round", nine.run(0, ROUND, 1), FULL_FAILURE);
        due("nine ahead of it", nine.passed(), 9);
        SignalBox eight = plainRoute(8, 10);
        due("ten rounds of eight places", eight.run(0, ROUND, 1), 80);
        for (int place = 0; place < 8; place++) due("axles at " + place, eight.told(place, AXLES), 10);
        SignalBox last = plainRoute(8, 10);
        last.section(7, PLAIN, 9, 0);
        due("full at the last place of the tenth round", last.run(0, ROUND, 1), FULL_FAILURE);
        due("79 ahead of it", last.passed(), 79);
    }

    private static void roundWraps() {
        SignalBox box = plainRoute(2, 1);
        due("full in the second round", box.run(0, ROUND, 1), FULL_FAILURE);
        dueTrace("behind the last comes the first", box,
                1000, 1000, 2000, 2000, 1001, 1001, 2001, 2001, 1000, 1000, 2000, 2000);
        SignalBox turned = routeOf(0);
        turned.section(0, POINTS, 100, 0);
        due("points alone", turned.run(0, ROUND, 1), 1);
        dueTrace("points alone", turned, 1000, 1000, 1000, 2000, 2000, 2000, 1000, 1000, 2000, 2000);
        due("leg", turned.told(0, LEG), 0);
    }

    private static void roundOfNone() {
        SignalBox box = plainRoute(8, 100);
        box.unlead(0);
        due("a route that had places", box.run(0, ROUND, 1000), 0);
        due("passed", box.passed(), 0);
        dueTrace("nothing is claimed", box);
        due("it is a run", box.count(2), 1);
    }

    // ---- what is refused changes nothing

    /** Something of everything: all kinds, a shared section, legs, axles, a full route, failures of both kinds. */
    private static SignalBox busyBox() {
        SignalBox box = new SignalBox();
        box.section(0, PLAIN, 50, 3);
        box.section(1, POINTS, 50, 4);
        box.section(2, BRIDGE, 50, 40);
        box.section(11, PLAIN, 2, 0);
        box.share(1, 3);
        for (int i = 0; i < 8; i++) box.lead(0, i % 3);
        box.lead(1, 0);
        box.lead(1, 11);
        box.lead(2, 7);
        box.run(2, ALONE, 1);
        box.run(1, ALL, 5);
        box.run(0, TWO_BY_TWO, 6);
        return box;
    }

    private static List<Integer> stateOf(SignalBox box) {
        List<Integer> state = new ArrayList<>();
        for (int place = 0; place < 12; place++) {
            for (int what = NUMBER; what <= MOST; what++) state.add(box.told(place, what));
        }
        for (int what = 0; what <= 10; what++) state.add(box.count(what));
        state.add(box.passed());
        for (int number : traceOf(box)) state.add(number);
        return state;
    }

    /** What runs over the routes then do: shows which places a route has, which no call tells. */
    private static List<Integer> futureOf(SignalBox box) {
        List<Integer> future = new ArrayList<>();
        for (int route = 0; route < 3; route++) {
            future.add(box.run(route, ALONE, 1));
            for (int number : traceOf(box)) future.add(number);
        }
        return future;
    }

    private static void dueUnchanged(String call, ToIntFunction<SignalBox> refused, int answer) {
        SignalBox box = busyBox();
        SignalBox twin = busyBox();
        due(call, refused.applyAsInt(box), answer);
        due(call + ": the state is as before", stateOf(box).equals(stateOf(twin)) ? 1 : 0, 1);
        due(call + ": later runs are as before", futureOf(box).equals(futureOf(twin)) ? 1 : 0, 1);
    }

    private static void badChangesNothing() {
        Map<String, ToIntFunction<SignalBox>> refused = new LinkedHashMap<>();
        for (int p : new int[] {-1, 12, LEAST_INT, MOST_INT}) {
            refused.put("section(" + p + ", 0, 1, 1)", box -> box.section(p, PLAIN, 1, 1));
            refused.put("share(" + p + ", 0)", box -> box.share(p, 0));
            refused.put("share(0, " + p + ")", box -> box.share(0, p));
            refused.put("remove(" + p + ")", box -> box.remove(p));
            refused.put("same(" + p + ", 0)", box -> box.same(p, 0));
            refused.put("same(0, " + p + ")", box -> box.same(0, p));
            refused.put("lead(1, " + p + ")", box -> box.lead(1, p));
            refused.put("shunt(" + p + ", 0, 1)", box -> box.shunt(p, 0, 1));
            refused.put("shunt(0, " + p + ", 1)", box -> box.shunt(0, p, 1));
            refused.put("told(" + p + ", 0)", box -> box.told(p, NUMBER));
        }
        for (int r : new int[] {-1, 6, LEAST_INT, MOST_INT}) {
            refused.put("lead(" + r + ", 0)", box -> box.lead(r, 0));
            refused.put("unlead(" + r + ")", box -> box.unlead(r));
            refused.put("run(" + r + ", 0, 1)", box -> box.run(r, ALONE, 1));
        }
        for (int n : new int[] {-1, 1001, LEAST_INT, MOST_INT}) {
            refused.put("run(0, 0, " + n + ")", box -> box.run(0, ALONE, n));
            refused.put("shunt(0, 1, " + n + ")", box -> box.shunt(0, 1, n));
            refused.put("shunt(7, 8, " + n + ")", box -> box.shunt(7, 8, n));
        }
        for (int size : new int[] {-1, 100001, LEAST_INT, MOST_INT}) {
            refused.put("section(0, 0, " + size + ", 1)", box -> box.section(0, PLAIN, size, 1));
            refused.put("section(0, 0, 1, " + size + ")", box -> box.section(0, PLAIN, 1, size));
        }
        for (int kind : new int[] {-1, 3}) refused.put("section(0, " + kind + ", 1, 1)", box -> box.section(0, kind, 1, 1));
        for (int way : new int[] {-1, 5}) refused.put("run(0, " + way + ", 1)", box -> box.run(0, way, 1));
        for (int what : new int[] {-1, 9}) refused.put("told(0, " + what + ")", box -> box.told(0, what));
        for (int what : new int[] {-1, 11}) refused.put("count(" + what + ")", box -> box.count(what));
        for (int k : new int[] {-2, 150}) refused.put("trace(" + k + ")", box -> box.trace(k));
        refused.put("told(7, 0), none there", box -> box.told(7, NUMBER));
        refused.put("lead(0, 12), the route full", box -> box.lead(0, 12));
        refused.forEach((call, answer) -> dueUnchanged(call, answer, BAD));
    }

    private static void fullChangesNothing() {
        dueUnchanged("lead(0, 11), the route full", box -> box.lead(0, 11), FULL);
        SignalBox box = busyBox();
        for (int i = 0; i < 3; i++) due("again", box.lead(0, 11), FULL);
        due("eight were led", box.unlead(0), 8);
        due("there is room again", box.lead(0, 11), 1);
    }

    // ---- calls

    private static void newObject() {
        SignalBox box = new SignalBox();
        for (int what = 0; what <= 10; what++) due("count(" + what + ")", box.count(what), 0);
        for (int route = 0; route < 6; route++) due("unlead(" + route + ")", box.unlead(route), 0);
        for (int way = ALONE; way <= ROUND; way++) due("run(0, " + way + ", 0)", box.run(0, way, 0), 0);
        busyBox();
        due("what another object has", new SignalBox().count(0), 0);
    }

    private static void limitAndMark() {
        SignalBox box = new SignalBox();
        for (int size : new int[] {-1, 100001, LEAST_INT, MOST_INT}) {
            for (int kind = PLAIN; kind <= BRIDGE; kind++) {
                due("limit " + size + ", kind " + kind, box.section(0, kind, size, 5), BAD);
                due("mark " + size + ", kind " + kind, box.section(0, kind, 5, size), BAD);
            }
        }
        due("none was made", box.count(0), 0);
        int number = 0;
        for (int size : new int[] {0, 100000}) {
            for (int kind = PLAIN; kind <= BRIDGE; kind++) {
                due("limit " + size + ", kind " + kind, box.section(0, kind, size, 5), number++);
                due("the limit", box.told(0, LIMIT), size);
                due("mark " + size + ", kind " + kind, box.section(0, kind, 5, size), number++);
                due("the mark", box.told(0, MARK), size);
            }
        }
    }

    private static void shareOrNone() {
        SignalBox box = new SignalBox();
        due("none to none", box.share(0, 11), 0);
        box.section(0, PLAIN, 1, 0);
        due("one to none", box.share(0, 11), 1);
        due("the same", box.same(0, 11), 1);
        box.section(1, PLAIN, 1, 0);
        due("one to one", box.share(1, 11), 1);
        due("the new one", box.told(11, NUMBER), 1);
        due("none to one", box.share(5, 11), 0);
        due("it has none", box.told(11, NUMBER), BAD);
        due("the giver keeps its own", box.told(1, NUMBER), 1);
        due("one to itself", box.share(1, 1), 1);
        due("it keeps it", box.told(1, NUMBER), 1);
    }

    private static void removeTwice() {
        SignalBox box = new SignalBox();
        due("at first", box.remove(0), 0);
        box.section(0, PLAIN, 1, 0);
        due("one", box.remove(0), 1);
        due("again", box.remove(0), 0);
        due("made stays", box.count(0), 1);
    }

    private static void sameOrNoneBoth() {
        SignalBox box = new SignalBox();
        due("none both", box.same(0, 11), 1);
        due("none, with itself", box.same(5, 5), 1);
        box.section(0, PLAIN, 1, 1);
        due("one, none", box.same(0, 11), 0);
        due("none, one", box.same(11, 0), 0);
        box.section(11, PLAIN, 1, 1);
        due("two that are alike", box.same(0, 11), 0);
        box.share(0, 11);
        due("one at both", box.same(0, 11), 1);
        box.remove(0);
        box.remove(11);
        due("none both again", box.same(0, 11), 1);
    }

    private static void leadUpToFull() {
        SignalBox box = new SignalBox();
        due("a place without a section", box.lead(3, 11), 1);
        due("the same place again", box.lead(3, 11), 2);
        for (int i = 3; i <= 8; i++) due("place " + i, box.lead(3, 0), i);
        due("the ninth", box.lead(3, 0), FULL);
        due("the ninth, to no place", box.lead(3, 12), BAD);
        due("no route", box.lead(6, 0), BAD);
        due("how many", box.count(8), 8);
    }

    private static void unleadFromNoneToEight() {
        for (int length = 0; length <= 8; length++) {
            SignalBox box = plainRoute(length, 100);
            due("it had " + length, box.unlead(0), length);
            due("it has none", box.count(5), 0);
            due("a run of none", box.run(0, ALONE, 1), 0);
            due("again", box.unlead(0), 0);
            box.section(11, PLAIN, 100, 0);
            due("led anew", box.lead(0, 11), 1);
            due("one place alone is run", box.run(0, ALONE, 1), 1);
            due("the new one", box.told(11, AXLES), 1);
        }
    }

    private static void wayFirstAndLast() {
        for (int way : new int[] {-1, 5, LEAST_INT, MOST_INT}) {
            SignalBox box = plainRoute(1, 100);
            due("way " + way, box.run(0, way, 1), BAD);
            due("way " + way + ", an empty route", box.run(1, way, 1), BAD);
            due("no run", box.count(2), 0);
        }
        SignalBox box = plainRoute(1, 100);
        due("way 0", box.run(0, 0, 1), 1);
        due("way 4", box.run(0, 4, 1), 10);
    }

    private static void axlesOfShunt() {
        SignalBox box = plainRoute(2, 100000);
        send(box, 0, 1000);
        send(box, 0, 1000);
        for (int n : new int[] {-1, 1001, LEAST_INT, MOST_INT}) {
            due("n " + n, box.shunt(0, 1, n), BAD);
            due("n " + n + ", none there", box.shunt(7, 8, n), BAD);
            due("n " + n + ", both one", box.shunt(0, 0, n), BAD);
        }
        due("n 0", box.shunt(0, 1, 0), 1);
        due("nothing went", box.told(0, AXLES), 2000);
        due("n 1000", box.shunt(0, 1, 1000), 1);
        due("left", box.told(0, AXLES), 1000);
        due("come", box.told(1, AXLES), 1000);
    }

    private static void shuntOfTooMany() {
        SignalBox box = plainRoute(2, 100);
        due("none of none", box.shunt(0, 1, 0), 1);
        due("one of none", box.shunt(0, 1, 1), 0);
        send(box, 0, 5);
        due("one too many", box.shunt(0, 1, 6), 0);
        dueTrace("both were claimed", box, 1000, 1001, 2001, 2000);
        due("nothing left", box.told(0, AXLES), 5);
        due("nothing came", box.told(1, AXLES), 0);
        due("just so many", box.shunt(0, 1, 5), 1);
        due("all left", box.told(0, AXLES), 0);
        due("all came", box.told(1, AXLES), 5);
    }

    private static void shuntOverLimit() {
        SignalBox box = routeOf(0);
        box.section(0, PLAIN, 100, 0);
        box.section(1, PLAIN, 5, 0);
        send(box, 0, 50);
        due("above by one", box.shunt(0, 1, 6), 0);
        dueTrace("both were claimed", box, 1000, 1001, 2001, 2000);
        due("nothing left", box.told(0, AXLES), 50);
        due("nothing came", box.told(1, AXLES), 0);
        due("up to the limit", box.shunt(0, 1, 5), 1);
        due("one more", box.shunt(0, 1, 1), 0);
        due("none more", box.shunt(0, 1, 0), 1);
        due("at the limit", box.told(1, AXLES), 5);
        box.section(2, BRIDGE, 10, 0);
        due("mark and leg are not looked at", box.shunt(0, 2, 10), 1);
        due("nor changed", box.told(2, MARK) + box.told(2, LEG), 0);
        due("off a bridge", box.shunt(2, 0, 10), 1);
        due("back", box.told(0, AXLES), 45);
    }

    private static void shuntOntoItself() {
        SignalBox box = plainRoute(1, 5);
        box.share(0, 11);
        send(box, 0, 5);
        due("five of five at the limit", box.shunt(0, 11, 5), 1);
        dueTrace("claimed within itself", box, 1000, 1000, 2000, 2000);
        due("as many as before", box.told(0, AXLES), 5);
        due("six of five", box.shunt(0, 11, 6), 0);
        due("one place with itself", box.shunt(0, 0, 3), 1);
        due("still as many", box.told(11, AXLES), 5);
        box.section(11, PLAIN, 5, 0);
        due("alike, but two: into an empty one", box.shunt(0, 11, 5), 1);
        send(box, 0, 1);
        due("alike, but two: into a full one", box.shunt(0, 11, 1), 0);
    }

    private static void shuntWithoutOne() {
        SignalBox box = plainRoute(1, 100);
        send(box, 0, 4);
        int claims = box.told(0, CLAIMS);
        due("no other", box.shunt(0, 1, 1), NULL_FAILURE);
        dueTrace("the first was come to", box, 1000, 2000);
        due("its claims", box.told(0, CLAIMS), claims + 1);
        due("no other, and too many", box.shunt(0, 1, 1000), NULL_FAILURE);
        due("no first", box.shunt(1, 0, 0), NULL_FAILURE);
        dueTrace("the other was not come to", box);
        due("neither", box.shunt(1, 2, 0), NULL_FAILURE);
        due("one place without", box.shunt(1, 1, 0), NULL_FAILURE);
        due("nothing went", box.told(0, AXLES), 4);
        due("held", box.told(0, HELD), 0);
        due("no run, so none that failed", box.count(3), 0);
    }

    private static void passedBeforeRun() {
        SignalBox box = plainRoute(2, 100);
        due("at first", box.passed(), 0);
        box.shunt(0, 1, 0);
        due("behind a shunt", box.passed(), 0);
        box.run(0, 5, 1);
        box.run(6, ALONE, 1);
        box.run(0, ALONE, 1001);
        due("behind runs that were BAD", box.passed(), 0);
    }

    private static void passedOfFailed() {
        SignalBox box = plainRoute(3, 100);
        box.run(0, ALONE, 1);
        due("three", box.passed(), 3);
        box.run(0, ALONE, -1);
        due("BAD leaves it", box.passed(), 3);
        box.shunt(0, 1, 1);
        due("a shunt leaves it", box.passed(), 3);
        box.section(2, PLAIN, 0, 0);
        due("full", box.run(0, ALONE, 1), FULL_FAILURE);
        due("failed by FULL", box.passed(), 2);
        box.remove(1);
        due("null", box.run(0, ALONE, 1), NULL_FAILURE);
        due("failed by NULL", box.passed(), 1);
        due("all at once", box.run(0, ALL, 1), NULL_FAILURE);
        due("failed ahead of any pass", box.passed(), 0);
        box.section(1, BRIDGE, 100, 0);
        due("refused", box.run(0, ALONE, 1), -101);
        due("of a run that was refused", box.passed(), 1);
    }

    private static void traceFirstAndLast() {
        SignalBox box = plainRoute(2, 100);
        due("how many at first", box.trace(-1), 0);
        due("none at first", box.trace(0), BAD);
        box.shunt(0, 1, 0);
        due("how many", box.trace(-1), 4);
        due("the first", box.trace(0), 1000);
        due("the last", box.trace(3), 2000);
        for (int k : new int[] {4, 149, 150, -2, LEAST_INT, MOST_INT}) due("trace(" + k + ")", box.trace(k), BAD);
    }

    private static void traceOfLatest() {
        SignalBox box = plainRoute(2, 100);
        box.run(0, ALONE, 1);
        int[] run = {1000, 1000, 2000, 2000, 1001, 1001, 2001, 2001};
        dueTrace("a run", box, run);
        box.run(0, ALONE, 1001);
        box.run(0, 5, 1);
        box.run(6, ALONE, 1);
        box.shunt(12, 0, 1);
        box.shunt(0, 12, 1);
        box.shunt(0, 1, -1);
        dueTrace("BAD leaves it", box, run);
        due("a shunt that answers 0", box.shunt(0, 1, 100), 0);
        dueTrace("a shunt that answers 0", box, 1000, 1001, 2001, 2000);
        due("a shunt that answers -11", box.shunt(7, 0, 1), NULL_FAILURE);
        dueTrace("a shunt that answers -11", box);
        due("a run that fails", box.run(0, ALONE, 1000), FULL_FAILURE);
        dueTrace("a run that fails", box, 1000, 1000, 2000, 2000);
    }

    private static void toldFirstAndLast() {
        SignalBox box = routeOf(11);
        box.section(0, PLAIN, 1, 1);
        box.section(11, BRIDGE, 90, 8);
        box.run(0, ALONE, 6);
        int[] told = {1, BRIDGE, 90, 7, 6, 1, 4, 0, 4};
        for (int what = NUMBER; what <= MOST; what++) due("told(11, " + what + ")", box.told(11, what), told[what]);
        for (int what : new int[] {-1, 9, LEAST_INT, MOST_INT}) due("told(11, " + what + ")", box.told(11, what), BAD);
    }

    private static void toldOfNone() {
        SignalBox box = plainRoute(1, 1);
        for (int what = -1; what <= 9; what++) due("never had one, told(1, " + what + ")", box.told(1, what), BAD);
        box.remove(0);
        for (int what = NUMBER; what <= MOST; what++) due("had one, told(0, " + what + ")", box.told(0, what), BAD);
        box.share(1, 0);
        due("shared none", box.told(0, NUMBER), BAD);
    }

    private static void countFirstAndLast() {
        SignalBox box = new SignalBox();
        for (int route = 0; route < 6; route++) {
            for (int i = 0; i < route + 3; i++) box.lead(route, 0);
        }
        for (int route = 0; route < 6; route++) due("count(" + (5 + route) + ")", box.count(5 + route), route + 3);
        // what - 5 goes round to the greatest numbers here.
        for (int what : new int[] {-1, 11, LEAST_INT, LEAST_INT + 4, LEAST_INT + 5, MOST_INT}) {
            due("count(" + what + ")", box.count(what), BAD);
        }
    }

    private static void countOfPlaces() {
        SignalBox box = new SignalBox();
        for (int place = 0; place < 12; place++) {
            due("with " + place, box.count(1), place);
            box.section(place, PLAIN, 1, 1);
        }
        due("all", box.count(1), 12);
        box.section(0, PLAIN, 1, 1);
        due("one anew", box.count(1), 12);
        box.remove(11);
        due("one less", box.count(1), 11);
        due("made", box.count(0), 13);
    }

    private static void countOfRuns() {
        SignalBox box = routeOf(0, 1);
        box.section(0, PLAIN, 9, 0);
        dueRuns("at first", box, 0, 0, 0);
        box.run(0, ALONE, 1);
        dueRuns("by NULL, ALONE", box, 1, 1, 0);
        box.run(0, TWO_BY_TWO, 1);
        box.run(0, ALL, 1);
        box.run(0, ROUND, 1);
        dueRuns("by NULL, three ways more", box, 4, 4, 0);
        box.run(0, FIRST, 1);
        dueRuns("FIRST passes over", box, 5, 4, 0);
        box.section(1, PLAIN, 0, 0);
        for (int way : new int[] {ALONE, TWO_BY_TWO, ALL, ROUND}) box.run(0, way, 1);
        dueRuns("by FULL, four ways", box, 9, 4, 4);
        box.run(0, FIRST, 1000);
        dueRuns("FIRST looks at the next", box, 10, 4, 4);
        box.section(1, BRIDGE, 9, 0);
        box.run(0, ALONE, 1);
        dueRuns("refused", box, 11, 4, 4);
        box.run(0, ALONE, -1);
        box.run(0, -1, 1);
        box.run(-1, ALONE, 1);
        box.shunt(0, 7, 1);
        box.shunt(0, 1, 1);
        dueRuns("BAD and shunt are no runs", box, 11, 4, 4);
    }

    private static void dueRuns(String what, SignalBox box, int runs, int byNull, int byFull) {
        due(what + ": runs", box.count(2), runs);
        due(what + ": failed by NULL", box.count(3), byNull);
        due(what + ": failed by FULL", box.count(4), byFull);
    }
}
