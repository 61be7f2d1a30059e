import java.util.Arrays;

/** Each promise of the document with ordinary inputs, the edges that it names, and wrong inputs; the answers are worked out by hand. */
public final class PromiseTests {
    private static final int BAD = -1, FULL = -2, NULL_FAILURE = -11, FULL_FAILURE = -30;
    private static final int PLAIN = 0, POINTS = 1, BRIDGE = 2;
    private static final int ALONE = 0, TWO_BY_TWO = 1, ALL = 2, FIRST = 3, ROUND = 4;
    private static final int NUMBER = 0, KIND = 1, LIMIT = 2, MARK = 3, AXLES = 4, LEG = 5, CLAIMS = 6, HELD = 7, MOST = 8;
    private static final int[] WRONG_PLACES = {-1, 12, Integer.MIN_VALUE, Integer.MAX_VALUE};
    private static final int[] WRONG_ROUTES = {-1, 6, Integer.MIN_VALUE, Integer.MAX_VALUE};
    private static final int[] WRONG_AXLES = {-1, 1001, Integer.MIN_VALUE, Integer.MAX_VALUE};

    private static int wrong = 0;
    private static String promise = "";

    public static void main(String[] args) {
        constants();
        newObject();
        section();
        share();
        remove();
        same();
        lead();
        unlead();
        runAnswers();
        passes();
        alone();
        twoByTwo();
        all();
        first();
        round();
        failuresLeaveWhatWasDone();
        shunt();
        passed();
        trace();
        told();
        count();
        System.out.println(wrong == 0 ? "all promises hold" : wrong + " answers are not as due");
        if (wrong != 0) System.exit(1);
    }

    private static void due(String what, int got, int want) {
        if (got != want) {
            wrong++;
            System.out.println(promise + ": " + what + " answered " + got + ", due is " + want);
        }
    }

    private static void dueTrace(String what, SignalBox box, int... want) {
        int[] got = new int[Math.max(0, box.trace(-1))];
        for (int k = 0; k < got.length; k++) got[k] = box.trace(k);
        if (!Arrays.equals(got, want)) {
            wrong++;
            System.out.println(promise + ": " + what + ": the trace is " + Arrays.toString(got) + ", due is " + Arrays.toString(want));
        }
    }

    /** Every section named let go again. */
    private static void dueLetGo(String what, SignalBox box, int... places) {
        for (int place : places) due(what + ": HELD at " + place, box.told(place, HELD), 0);
    }

    private static SignalBox routeOf(int... places) {
        SignalBox box = new SignalBox();
        for (int place : places) box.lead(0, place);
        return box;
    }

    private static void constants() {
        promise = "face";
        due("BAD", SignalBox.BAD, BAD);
        due("FULL", SignalBox.FULL, FULL);
    }

    private static void newObject() {
        promise = "promise 1";
        SignalBox box = new SignalBox();
        for (int what = 0; what <= 10; what++) due("count(" + what + ")", box.count(what), 0);
        for (int place = 0; place < 12; place++) {
            due("told", box.told(place, NUMBER), BAD);
            due("remove", box.remove(place), 0);
        }
        for (int route = 0; route < 6; route++) due("unlead", box.unlead(route), 0);
        due("passed()", box.passed(), 0);
        due("trace(-1)", box.trace(-1), 0);
        due("trace(0)", box.trace(0), BAD);
        SignalBox other = new SignalBox();
        box.section(0, PLAIN, 1, 1);
        box.lead(0, 0);
        due("another object's sections", other.count(0), 0);
        due("another object's routes", other.count(5), 0);
    }

    private static void section() {
        promise = "promise 2";
        SignalBox box = new SignalBox();
        for (int place : WRONG_PLACES) due("section(" + place + ")", box.section(place, PLAIN, 1, 1), BAD);
        for (int kind : new int[] {-1, 3, Integer.MIN_VALUE, Integer.MAX_VALUE}) due("kind " + kind, box.section(0, kind, 1, 1), BAD);
        for (int size : new int[] {-1, 100001, Integer.MIN_VALUE, Integer.MAX_VALUE}) {
            due("limit " + size, box.section(0, PLAIN, size, 1), BAD);
            due("mark " + size, box.section(0, PLAIN, 1, size), BAD);
        }
        due("nothing made by BAD", box.count(0), 0);
        due("nothing placed by BAD", box.count(1), 0);
        due("least", box.section(0, PLAIN, 0, 0), 0);
        due("most", box.section(11, BRIDGE, 100000, 100000), 1);
        due("limit kept", box.told(11, LIMIT), 100000);
        due("mark kept", box.told(11, MARK), 100000);
        due("points", box.section(5, POINTS, 7, 8), 2);
        due("a section in place of another", box.section(0, POINTS, 3, 4), 3);
        due("the new one stands", box.told(0, NUMBER), 3);
        due("its kind", box.told(0, KIND), POINTS);
        due("made", box.count(0), 4);
        due("places with one", box.count(1), 3);
        box.remove(0);
        due("numbers are not used again", box.section(0, PLAIN, 1, 1), 4);
        due("BAD leaves the old one", box.section(0, 9, 1, 1), BAD);
        due("old one", box.told(0, NUMBER), 4);
        manySections();
    }

    private static void manySections() {
        SignalBox box = new SignalBox();
        for (int i = 0; i < 500; i++) due("section " + i, box.section(i % 12, i % 3, i, i), i);
        box.lead(0, 499 % 12);
        due("the last of many runs", box.run(0, ALONE, 0), 1);
        due("its claim", box.trace(0), 1499);
    }

    private static void share() {
        promise = "promise 3";
        SignalBox box = new SignalBox();
        for (int place : WRONG_PLACES) {
            due("share from " + place, box.share(place, 0), BAD);
            due("share to " + place, box.share(0, place), BAD);
        }
        box.section(0, POINTS, 10, 0);
        due("share(0, 11)", box.share(0, 11), 1);
        due("same one", box.told(11, NUMBER), 0);
        due("none made", box.count(0), 1);
        due("two places", box.count(1), 2);
        box.lead(0, 11);
        box.run(0, ALONE, 4);
        due("one state for both", box.told(0, AXLES), 4);
        due("share with itself", box.share(0, 0), 1);
        due("still there", box.told(0, NUMBER), 0);
        due("share of none", box.share(5, 11), 0);
        due("place has none now", box.told(11, NUMBER), BAD);
        due("the first keeps it", box.told(0, NUMBER), 0);
        due("none with itself", box.share(5, 5), 0);
        box.share(0, 11);
        box.section(0, PLAIN, 1, 1);
        due("the sharer keeps the old one", box.told(11, NUMBER), 0);
    }

    private static void remove() {
        promise = "promise 4";
        SignalBox box = new SignalBox();
        for (int place : WRONG_PLACES) due("remove(" + place + ")", box.remove(place), BAD);
        box.section(11, PLAIN, 1, 1);
        box.share(11, 0);
        due("remove(11)", box.remove(11), 1);
        due("remove(11) again", box.remove(11), 0);
        due("gone", box.told(11, NUMBER), BAD);
        due("the other place keeps it", box.told(0, NUMBER), 0);
        due("made is not less", box.count(0), 1);
        due("places with one", box.count(1), 1);
    }

    private static void same() {
        promise = "promise 5";
        SignalBox box = new SignalBox();
        for (int place : WRONG_PLACES) {
            due("same(" + place + ", 0)", box.same(place, 0), BAD);
            due("same(0, " + place + ")", box.same(0, place), BAD);
        }
        due("none both", box.same(0, 11), 1);
        box.section(0, PLAIN, 5, 5);
        box.section(1, PLAIN, 5, 5);
        due("alike is not the same", box.same(0, 1), 0);
        due("one and none", box.same(0, 11), 0);
        due("none and one", box.same(11, 0), 0);
        due("itself", box.same(0, 0), 1);
        box.share(0, 11);
        due("shared", box.same(11, 0), 1);
    }

    private static void lead() {
        promise = "promise 6";
        SignalBox box = new SignalBox();
        for (int route : WRONG_ROUTES) due("lead(" + route + ", 0)", box.lead(route, 0), BAD);
        for (int place : WRONG_PLACES) due("lead(0, " + place + ")", box.lead(0, place), BAD);
        due("nothing led by BAD", box.count(5), 0);
        for (int i = 1; i <= 8; i++) due("lead(5, 11)", box.lead(5, 11), i);
        due("a ninth", box.lead(5, 11), FULL);
        due("a ninth that is BAD", box.lead(5, 12), BAD);
        due("still eight", box.count(10), 8);
        due("another route has room", box.lead(4, 0), 1);
        box.section(11, PLAIN, 100, 0);
        due("all eight are run", box.run(5, ALONE, 1), 8);
    }

    private static void unlead() {
        promise = "promise 7";
        SignalBox box = new SignalBox();
        for (int route : WRONG_ROUTES) due("unlead(" + route + ")", box.unlead(route), BAD);
        for (int i = 0; i < 9; i++) box.lead(0, 0);
        box.lead(1, 3);
        due("unlead of eight", box.unlead(0), 8);
        due("unlead of none", box.unlead(0), 0);
        due("no places", box.count(5), 0);
        due("the other route stays", box.count(6), 1);
        due("an empty route runs", box.run(0, ALONE, 1), 0);
        due("led anew", box.lead(0, 2), 1);
        box.section(2, PLAIN, 9, 0);
        due("the new place is run", box.run(0, ALONE, 1), 1);
    }

    private static void runAnswers() {
        promise = "promise 8";
        SignalBox box = routeOf(0);
        box.section(0, PLAIN, 100000, 0);
        for (int route : WRONG_ROUTES) due("run(" + route + ")", box.run(route, ALONE, 1), BAD);
        for (int way : new int[] {-1, 5, Integer.MIN_VALUE, Integer.MAX_VALUE}) due("way " + way, box.run(0, way, 1), BAD);
        for (int n : WRONG_AXLES) due("n " + n, box.run(0, ALONE, n), BAD);
        due("BAD is no run", box.count(2), 0);
        due("BAD claims nothing", box.told(0, CLAIMS), 0);
        due("n 0", box.run(0, ALONE, 0), 1);
        due("n 1000", box.run(0, ALONE, 1000), 1);
        due("axles", box.told(0, AXLES), 1000);
        for (int way = ALONE; way <= ROUND; way++) {
            due("an empty route by way " + way, box.run(5, way, 1), 0);
            due("its trace", box.trace(-1), 0);
        }
    }

    private static void passes() {
        promise = "terms, PASS";
        SignalBox box = routeOf(0);
        box.section(0, PLAIN, 10, 0);
        due("up to the limit", box.run(0, ALONE, 10), 1);
        due("0 more at the limit", box.run(0, ALONE, 0), 1);
        due("1 more", box.run(0, ALONE, 1), FULL_FAILURE);
        due("axles stay", box.told(0, AXLES), 10);
        dueLetGo("after FULL", box, 0);

        box.section(0, POINTS, 10, 0);
        due("points, leg 0", box.run(0, ALONE, 10), 1);
        due("leg", box.told(0, LEG), 1);
        due("points, leg 1, though full", box.run(0, ALONE, 10), 0);
        dueTrace("turned away", box, 1001, 1001, 2001, 2001);
        due("leg again", box.told(0, LEG), 0);
        due("points full", box.run(0, ALONE, 1), FULL_FAILURE);
        due("the leg turned ahead of the failure", box.told(0, LEG), 1);
        dueTrace("points full", box, 1001, 1001, 1001, 2001, 2001, 2001);

        box.section(0, BRIDGE, 10, 3);
        due("above the mark", box.run(0, ALONE, 4), -100);
        dueTrace("refused", box, 1002, 1002, 2002, 2002);
        due("the leg is left", box.told(0, LEG), 0);
        due("the mark is left", box.told(0, MARK), 3);
        due("at the mark", box.run(0, ALONE, 3), 1);
        dueTrace("bridge", box, 1002, 1002, 1002, 1002, 2002, 2002, 2002, 2002);
        due("mark 1 less", box.told(0, MARK), 2);
        due("above the new mark, ahead of the leg", box.run(0, ALONE, 3), -100);
        due("turned", box.run(0, ALONE, 2), 0);
        due("mark stays when turned", box.told(0, MARK), 2);

        box.section(0, BRIDGE, 1, 9);
        due("bridge full", box.run(0, ALONE, 2), FULL_FAILURE);
        due("mark stays at a failure", box.told(0, MARK), 9);
        due("leg turned", box.told(0, LEG), 1);
        due("most", box.told(0, MOST), 4);
        dueLetGo("bridge full", box, 0);

        box.section(0, BRIDGE, 1, 0);
        due("mark 0 bears 0", box.run(0, ALONE, 0), 1);
        due("mark below 0", box.told(0, MARK), -1);
        due("then it bears nothing", box.run(0, ALONE, 0), -100);
    }

    private static void alone() {
        promise = "promise 8, ALONE";
        SignalBox box = routeOf(0, 1, 2);
        box.section(0, PLAIN, 100, 0);
        box.section(1, POINTS, 100, 0);
        due("a place without a section", box.run(0, ALONE, 1), NULL_FAILURE);
        dueTrace("NULL", box, 1000, 1000, 2000, 2000, 1001, 1001, 1001, 2001, 2001, 2001);
        due("two passed ahead of it", box.passed(), 2);
        box.section(2, BRIDGE, 100, 5);
        due("turned at the second", box.run(0, ALONE, 1), 1);
        due("refused at the third", box.run(0, ALONE, 6), -102);
        due("passed ahead of it", box.passed(), 2);
        due("axles of the first", box.told(0, AXLES), 8);
        due("axles of the second", box.told(1, AXLES), 7);
        dueLetGo("alone", box, 0, 1, 2);
    }

    private static void twoByTwo() {
        promise = "promise 8, TWO BY TWO";
        SignalBox box = routeOf(0, 1, 0);
        box.section(0, PLAIN, 100, 0);
        due("next is not there", box.run(0, TWO_BY_TWO, 1), NULL_FAILURE);
        dueTrace("next is not there", box, 1000, 2000);
        due("nothing passed", box.told(0, AXLES), 0);
        box.section(1, PLAIN, 2, 0);
        due("all three", box.run(0, TWO_BY_TWO, 2), 3);
        dueTrace("all three", box, 1000, 1001, 1000, 2000, 2001, 2000, 1001, 1000, 1001, 2001, 2000, 2001, 1000, 1000, 2000, 2000);
        due("full at the second", box.run(0, TWO_BY_TWO, 1), FULL_FAILURE);
        dueTrace("full at the second", box, 1000, 1001, 1000, 2000, 2001, 2000, 1001, 1000, 1001, 2001, 2000, 2001);
        dueLetGo("two by two", box, 0, 1);
        box.remove(0);
        due("the first is not there", box.run(0, TWO_BY_TWO, 1), NULL_FAILURE);
        due("nothing claimed", box.trace(-1), 0);

        SignalBox turning = routeOf(0, 1);
        turning.section(0, POINTS, 100, 0);
        turning.section(1, BRIDGE, 100, 1);
        due("refused at the second", turning.run(0, TWO_BY_TWO, 2), -101);
        due("turned at the first", turning.run(0, TWO_BY_TWO, 1), 0);
        dueTrace("turned", turning, 1000, 1001, 1000, 2000, 2001, 2000);
        SignalBox twice = routeOf(3, 3);
        twice.section(3, PLAIN, 100, 0);
        due("one section, next to itself", twice.run(0, TWO_BY_TWO, 1), 2);
        due("held thrice", twice.told(3, MOST), 3);
    }

    private static void all() {
        promise = "promise 8, ALL";
        SignalBox box = routeOf(0, 1, 2);
        box.section(0, PLAIN, 100, 0);
        box.section(1, PLAIN, 100, 0);
        due("the last is not there", box.run(0, ALL, 1), NULL_FAILURE);
        dueTrace("the last is not there", box, 1000, 1001, 2001, 2000);
        due("none passed", box.passed(), 0);
        due("no axles", box.told(0, AXLES), 0);
        box.section(2, BRIDGE, 100, 5);
        due("all pass", box.run(0, ALL, 5), 3);
        dueTrace("all pass", box, 1000, 1001, 1002, 1000, 2000, 1001, 2001, 1002, 1002, 1002, 2002, 2002, 2002, 2002, 2001, 2000);
        due("refused at the third", box.run(0, ALL, 5), -102);
        due("passed ahead", box.passed(), 2);
        dueTrace("refused", box, 1000, 1001, 1002, 1000, 2000, 1001, 2001, 1002, 2002, 2002, 2001, 2000);
        due("turned at the third", box.run(0, ALL, 4), 2);
        box.section(1, PLAIN, 0, 0);
        due("full at the second", box.run(0, ALL, 1), FULL_FAILURE);
        due("passed ahead of full", box.passed(), 1);
        dueTrace("full", box, 1000, 1003, 1002, 1000, 2000, 1003, 2003, 2002, 2003, 2000);
        dueLetGo("all", box, 0, 1, 2);

        SignalBox eight = routeOf(0, 0, 0, 0, 0, 0, 0, 0);
        eight.section(0, PLAIN, 100, 0);
        due("one section eight times", eight.run(0, ALL, 1), 8);
        due("held nine times at most", eight.told(0, MOST), 9);
        due("claimed", eight.told(0, CLAIMS), 16);
        due("let go", eight.told(0, HELD), 0);
    }

    private static void first() {
        promise = "promise 8, FIRST";
        SignalBox box = routeOf(7, 0, 1, 2, 3);
        due("none has a section", box.run(0, FIRST, 1), 0);
        due("that is no failure", box.count(3), 0);
        box.section(0, PLAIN, 2, 0);
        box.section(1, POINTS, 100, 0);
        box.section(2, BRIDGE, 100, 3);
        box.section(3, PLAIN, 1000, 0);
        due("the first with room", box.run(0, FIRST, 2), 1);
        dueTrace("the first", box, 1000, 1000, 2000, 2000);
        due("the next one", box.run(0, FIRST, 1), 1);
        dueTrace("the next one", box, 1000, 2000, 1001, 1001, 1001, 2001, 2001, 2001);
        due("refused by the bridge", box.run(0, FIRST, 4), -103);
        dueTrace("refused", box, 1000, 2000, 1001, 2001, 1002, 1002, 2002, 2002);
        due("passed none", box.passed(), 0);
        due("over the bridge", box.run(0, FIRST, 3), 1);
        due("behind the bridge", box.run(0, FIRST, 1000), 1);
        due("the last is full", box.run(0, FIRST, 1), 0);
        dueTrace("the last is full", box, 1000, 2000, 1001, 2001, 1002, 2002, 1003, 2003);
        due("no leg was turned back", box.told(1, LEG), 1);
        due("no failure by full", box.count(4), 0);
        due("n 0 goes at the limit", box.run(0, FIRST, 0), 1);
        dueLetGo("first", box, 0, 1, 2, 3);

        SignalBox leading = routeOf(0, 1);
        leading.section(0, BRIDGE, 100, 1);
        leading.section(1, PLAIN, 100, 0);
        due("refused by the first place", leading.run(0, FIRST, 2), -100);
        due("the first place is taken", leading.run(0, FIRST, 1), 1);
        due("not the second", leading.told(1, CLAIMS), 0);
    }

    private static void round() {
        promise = "promise 8, ROUND";
        SignalBox box = routeOf(0, 1);
        box.section(0, PLAIN, 100000, 0);
        due("a place without a section", box.run(0, ROUND, 1), NULL_FAILURE);
        due("passed", box.passed(), 1);
        box.section(1, PLAIN, 100000, 0);
        due("ten times round", box.run(0, ROUND, 2), 20);
        due("axles of the first", box.told(0, AXLES), 21);
        due("axles of the second", box.told(1, AXLES), 20);
        due("trace", box.trace(-1), 80);
        box.section(1, POINTS, 100000, 0);
        due("turned in the second round", box.run(0, ROUND, 1), 3);
        box.section(1, PLAIN, 4, 0);
        due("full in the third round", box.run(0, ROUND, 2), FULL_FAILURE);
        due("passed ahead", box.passed(), 5);
        box.section(1, BRIDGE, 100, 5);
        due("refused in the second round", box.run(0, ROUND, 5), -101);
        due("passed ahead of it", box.passed(), 3);
        dueLetGo("round", box, 0, 1);
    }

    private static void failuresLeaveWhatWasDone() {
        promise = "promise 8, FAILURE";
        for (int way : new int[] {ALONE, TWO_BY_TWO, ALL, ROUND}) {
            SignalBox box = routeOf(0, 1, 2);
            box.section(0, PLAIN, 100, 0);
            box.section(1, BRIDGE, 100, 50);
            box.section(2, POINTS, 1, 0);
            due("way " + way, box.run(0, way, 2), FULL_FAILURE);
            due("passed, way " + way, box.passed(), 2);
            due("axles stay, way " + way, box.told(0, AXLES), 2);
            due("mark stays, way " + way, box.told(1, MARK), 49);
            due("leg stays, way " + way, box.told(2, LEG), 1);
            due("failed by full, way " + way, box.count(4), 1);
            dueLetGo("way " + way, box, 0, 1, 2);
        }
    }

    private static void shunt() {
        promise = "promise 9";
        SignalBox box = routeOf(0);
        for (int place : WRONG_PLACES) {
            due("shunt from " + place, box.shunt(place, 0, 1), BAD);
            due("shunt to " + place, box.shunt(0, place, 1), BAD);
        }
        box.section(0, PLAIN, 2000, 0);
        box.section(1, BRIDGE, 1005, 0);
        for (int n : WRONG_AXLES) due("n " + n, box.shunt(0, 1, n), BAD);
        box.run(0, ALONE, 1000);
        box.run(0, ALONE, 10);
        due("a thousand", box.shunt(0, 1, 1000), 1);
        dueTrace("a thousand", box, 1000, 1001, 2001, 2000);
        due("less", box.told(0, AXLES), 10);
        due("more", box.told(1, AXLES), 1000);
        due("mark and leg do not count", box.told(1, LEG), 0);
        due("not so many", box.shunt(0, 1, 11), 0);
        due("above the limit", box.shunt(0, 1, 6), 0);
        dueTrace("above the limit", box, 1000, 1001, 2001, 2000);
        due("nothing went", box.told(0, AXLES), 10);
        due("up to the limit", box.shunt(0, 1, 5), 1);
        due("none at the limit", box.shunt(0, 1, 0), 1);
        due("all that it has", box.shunt(0, 1, 5), 0);
        due("back", box.shunt(1, 0, 5), 1);
        due("passed stays the run's", box.passed(), 1);
        due("runs", box.count(2), 2);
        dueLetGo("shunt", box, 0, 1);
        shuntOfOne();
        shuntOfNone();
    }

    private static void shuntOfOne() {
        SignalBox box = routeOf(0);
        box.section(0, PLAIN, 10, 0);
        box.share(0, 1);
        box.run(0, ALONE, 10);
        due("both are one: the limit is not looked at", box.shunt(0, 1, 10), 1);
        dueTrace("both are one", box, 1000, 1000, 2000, 2000);
        due("axles as before", box.told(0, AXLES), 10);
        due("not so many", box.shunt(0, 1, 11), 0);
        due("a place and itself", box.shunt(0, 0, 4), 1);
        due("axles still", box.told(1, AXLES), 10);
        due("most", box.told(0, MOST), 2);
    }

    private static void shuntOfNone() {
        SignalBox box = routeOf(0);
        box.section(0, PLAIN, 10, 0);
        box.run(0, ALONE, 3);
        due("the other is not there", box.shunt(0, 1, 1), NULL_FAILURE);
        dueTrace("the first was claimed", box, 1000, 2000);
        due("claims", box.told(0, CLAIMS), 3);
        due("the first is not there", box.shunt(1, 0, 1), NULL_FAILURE);
        due("nothing claimed", box.trace(-1), 0);
        due("neither is there", box.shunt(1, 2, 0), NULL_FAILURE);
        due("axles stay", box.told(0, AXLES), 3);
        due("no run failed", box.count(3), 0);
        dueLetGo("shunt of none", box, 0);
    }

    private static void passed() {
        promise = "promise 10";
        SignalBox box = routeOf(0, 1);
        due("before a run", box.passed(), 0);
        box.section(0, PLAIN, 4, 0);
        box.run(0, ALONE, 2);
        due("of a run that failed by NULL", box.passed(), 1);
        box.run(0, 5, 2);
        due("BAD leaves it", box.passed(), 1);
        box.section(1, PLAIN, 2, 0);
        box.run(0, ALONE, 2);
        due("of a run", box.passed(), 2);
        box.run(0, ALONE, 1);
        due("of a run that failed by FULL at once", box.passed(), 0);
    }

    private static void trace() {
        promise = "promise 11";
        SignalBox box = routeOf(0, 0, 0, 0, 0, 0, 0, 0);
        box.section(1, PLAIN, 1, 0);
        box.section(0, PLAIN, 100000, 0);
        due("before a run", box.trace(-1), 0);
        box.run(0, ALONE, 1);
        due("eight alone", box.trace(-1), 32);
        due("last", box.trace(31), 2001);
        for (int k : new int[] {-2, 32, 150, Integer.MIN_VALUE, Integer.MAX_VALUE}) due("trace(" + k + ")", box.trace(k), BAD);
        box.run(9, ALONE, 1);
        box.shunt(0, 12, 1);
        due("BAD leaves it", box.trace(-1), 32);
        box.run(0, ROUND, 1);
        due("150 at most", box.trace(-1), 150);
        due("the 150th", box.trace(149), 1001);
        due("the 149th", box.trace(148), 1001);
        due("no 151st", box.trace(150), BAD);
        due("claims go on beyond the trace", box.told(0, CLAIMS), 16 + 160);
        due("let go beyond the trace", box.told(0, HELD), 0);
        box.shunt(0, 1, 1);
        dueTrace("a shunt begins anew", box, 1001, 1000, 2000, 2001);
        due("what was there before is gone", box.trace(4), BAD);
        box.run(1, ALONE, 1);
        due("an empty run leaves an empty trace", box.trace(-1), 0);
        due("nothing at 0", box.trace(0), BAD);
    }

    private static void told() {
        promise = "promise 12";
        SignalBox box = routeOf(1);
        box.section(3, PLAIN, 1, 1);
        box.section(1, BRIDGE, 70, 8);
        int[] fresh = {1, BRIDGE, 70, 8, 0, 0, 0, 0, 0};
        for (int what = 0; what <= 8; what++) due("new, told(1, " + what + ")", box.told(1, what), fresh[what]);
        box.run(0, ALONE, 6);
        int[] after = {1, BRIDGE, 70, 7, 6, 1, 4, 0, 4};
        for (int what = 0; what <= 8; what++) due("told(1, " + what + ")", box.told(1, what), after[what]);
        for (int what : new int[] {-1, 9, Integer.MIN_VALUE, Integer.MAX_VALUE}) due("told(1, " + what + ")", box.told(1, what), BAD);
        for (int place : WRONG_PLACES) due("told(" + place + ", 0)", box.told(place, 0), BAD);
        due("a place without one", box.told(2, 0), BAD);
    }

    private static void count() {
        promise = "promise 13";
        SignalBox box = new SignalBox();
        for (int what : new int[] {-1, 11, Integer.MIN_VALUE, Integer.MIN_VALUE + 4, Integer.MAX_VALUE}) due("count(" + what + ")", box.count(what), BAD);
        for (int route = 0; route < 6; route++) {
            for (int i = 0; i <= route; i++) box.lead(route, i);
        }
        for (int route = 0; route < 6; route++) due("places of route " + route, box.count(5 + route), route + 1);
        box.section(0, PLAIN, 5, 0);
        box.share(0, 11);
        due("sections made", box.count(0), 1);
        due("places with one", box.count(1), 2);
        box.run(0, ALONE, 5);
        box.run(0, ALONE, 1);
        box.run(1, ALL, 0);
        box.run(1, TWO_BY_TWO, 0);
        box.section(0, BRIDGE, 5, 0);
        box.run(0, ALONE, 1);
        box.run(0, 7, 1);
        due("runs", box.count(2), 5);
        due("failed by NULL", box.count(3), 2);
        due("failed by FULL", box.count(4), 1);
    }
}
