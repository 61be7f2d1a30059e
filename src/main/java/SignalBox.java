/** A signal box: trains run over sections of track, which are claimed one within another and let go, the latest first. */
public final class SignalBox {
    public static final int BAD = -1, FULL = -2;

    private static final int PLACES = 12;
    private static final int ROUTES = 6;
    private static final int ROUTE_ROOM = 8;
    private static final int TRACE_ROOM = 150;
    private static final int MOST_AXLES = 1000;
    private static final int MOST_LIMIT = 100000;
    private static final int ROUNDS = 10;

    private static final int POINTS = 1;
    private static final int BRIDGE = 2;

    private static final int ALONE = 0;
    private static final int TWO_BY_TWO = 1;
    private static final int ALL = 2;
    private static final int FIRST = 3;
    private static final int ROUND = 4;

    private static final int CLAIM_SIGN = 1000;
    private static final int LET_SIGN = 2000;

    // What a pass tells. Failures are kept as the answers that they become, so that they never meet the 0, 1, 2.
    private static final int WENT = 0;
    private static final int TURNED = 1;
    private static final int REFUSED = 2;
    private static final int FAILED_NULL = -11;
    private static final int FAILED_FULL = -30;
    private static final int REFUSED_BASE = -100;

    private final Section[] standing;
    // One row for all routes: route r has its places from r * ROUTE_ROOM on.
    private final int[] routePlaces;
    private final int[] routeLengths;
    private final int[] trace;
    private int traceLength;
    private int made;
    private int runs;
    private int nullFailures;
    private int fullFailures;
    private int passed;

    public SignalBox() {
        standing = new Section[PLACES];
        routePlaces = new int[ROUTES * ROUTE_ROOM];
        routeLengths = new int[ROUTES];
        trace = new int[TRACE_ROOM];
    }

    public int section(int place, int kind, int limit, int mark) {
        if (!isPlace(place) || kind < 0 || kind > BRIDGE || !isLimit(limit) || !isLimit(mark)) {
            return BAD;
        }
        Section section = new Section(made, kind, limit, mark);
        standing[place] = section;
        made++;
        return section.number;
    }

    public int share(int from, int to) {
        if (!isPlace(from) || !isPlace(to)) {
            return BAD;
        }
        standing[to] = standing[from];
        return standing[to] != null ? 1 : 0;
    }

    public int remove(int place) {
        if (!isPlace(place)) {
            return BAD;
        }
        int had = standing[place] != null ? 1 : 0;
        standing[place] = null;
        return had;
    }

    public int same(int place, int other) {
        if (!isPlace(place) || !isPlace(other)) {
            return BAD;
        }
        return standing[place] == standing[other] ? 1 : 0;
    }

    public int lead(int route, int place) {
        if (!isRoute(route) || !isPlace(place)) {
            return BAD;
        }
        int length = routeLengths[route];
        if (length >= ROUTE_ROOM) {
            return FULL;
        }
        routePlaces[route * ROUTE_ROOM + length] = place;
        routeLengths[route] = length + 1;
        return length + 1;
    }

    public int unlead(int route) {
        if (!isRoute(route)) {
            return BAD;
        }
        int had = routeLengths[route];
        routeLengths[route] = 0;
        return had;
    }

    public int run(int route, int way, int n) {
        if (!isRoute(route) || way < ALONE || way > ROUND || !isAxles(n)) {
            return BAD;
        }
        runs++;
        passed = 0;
        traceLength = 0;
        switch (way) {
            case ALONE: return counted(goAlone(route, n, 1));
            case TWO_BY_TWO: return counted(goTwoByTwo(route, n));
            case ALL: return counted(goAll(route, n));
            case FIRST: return counted(goFirst(route, n));
            default: return counted(goAlone(route, n, ROUNDS));
        }
    }

    public int shunt(int from, int to, int n) {
        if (!isPlace(from) || !isPlace(to) || !isAxles(n)) {
            return BAD;
        }
        traceLength = 0;
        Section giver = standing[from];
        if (giver == null) {
            return FAILED_NULL;
        }
        claim(giver);
        int answer = shuntOnto(giver, standing[to], n);
        let(giver);
        return answer;
    }

    public int passed() {
        return passed;
    }

    public int trace(int k) {
        if (k == -1) {
            return traceLength;
        }
        return k >= 0 && k < traceLength ? trace[k] : BAD;
    }

    public int told(int place, int what) {
        if (!isPlace(place)) {
            return BAD;
        }
        Section section = standing[place];
        if (section == null) {
            return BAD;
        }
        switch (what) {
            case 0: return section.number;
            case 1: return section.kind;
            case 2: return section.limit;
            case 3: return section.mark;
            case 4: return section.axles;
            case 5: return section.leg;
            case 6: return section.claims;
            case 7: return section.held;
            case 8: return section.most;
            default: return BAD;
        }
    }

    public int count(int what) {
        switch (what) {
            case 0: return made;
            case 1: return countStanding();
            case 2: return runs;
            case 3: return nullFailures;
            case 4: return fullFailures;
            default: return isRoute(what - 5) ? routeLengths[what - 5] : BAD;
        }
    }

    private static boolean isPlace(int place) {
        return place >= 0 && place < PLACES;
    }

    private static boolean isRoute(int route) {
        return route >= 0 && route < ROUTES;
    }

    private static boolean isAxles(int n) {
        return n >= 0 && n <= MOST_AXLES;
    }

    private static boolean isLimit(int number) {
        return number >= 0 && number <= MOST_LIMIT;
    }

    private int countStanding() {
        int found = 0;
        for (int place = 0; place < PLACES; place++) {
            if (standing[place] != null) {
                found++;
            }
        }
        return found;
    }

    private int counted(int answer) {
        if (answer == FAILED_NULL) {
            nullFailures++;
        }
        if (answer == FAILED_FULL) {
            fullFailures++;
        }
        return answer;
    }

    private int goAlone(int route, int n, int rounds) {
        for (int round = 0; round < rounds; round++) {
            for (int index = 0; index < routeLengths[route]; index++) {
                Section section = sectionOn(route, index);
                if (section == null) {
                    return FAILED_NULL;
                }
                claim(section);
                int told = pass(section, n);
                let(section);
                if (told != WENT) {
                    return answerTo(told, index);
                }
            }
        }
        return passed;
    }

    private int goTwoByTwo(int route, int n) {
        for (int index = 0; index < routeLengths[route]; index++) {
            Section section = sectionOn(route, index);
            if (section == null) {
                return FAILED_NULL;
            }
            claim(section);
            boolean isLast = index + 1 == routeLengths[route];
            Section next = isLast ? null : sectionOn(route, index + 1);
            int told = FAILED_NULL;
            if (next != null) {
                claim(next);
                told = pass(section, n);
                let(next);
            } else if (isLast) {
                told = pass(section, n);
            }
            let(section);
            if (told != WENT) {
                return answerTo(told, index);
            }
        }
        return passed;
    }

    private int goAll(int route, int n) {
        int claimed = claimAll(route);
        int told = claimed < routeLengths[route] ? FAILED_NULL : WENT;
        int answer = answerTo(told, 0);
        for (int index = 0; index < claimed && told == WENT; index++) {
            Section section = sectionOn(route, index);
            told = section == null ? FAILED_NULL : pass(section, n);
            answer = answerTo(told, index);
        }
        letAll(route, claimed);
        return answer;
    }

    /** Stops ahead of the first place without a section; answers how many were claimed. */
    private int claimAll(int route) {
        for (int index = 0; index < routeLengths[route]; index++) {
            Section section = sectionOn(route, index);
            if (section == null) {
                return index;
            }
            claim(section);
        }
        return routeLengths[route];
    }

    private void letAll(int route, int claimed) {
        for (int index = claimed - 1; index >= 0; index--) {
            Section section = sectionOn(route, index);
            if (section != null) {
                let(section);
            }
        }
    }

    private int goFirst(int route, int n) {
        for (int index = 0; index < routeLengths[route]; index++) {
            Section section = sectionOn(route, index);
            if (section == null) {
                continue;
            }
            claim(section);
            boolean isOpen = section.hasRoomFor(n) && section.leg == 0;
            int told = isOpen ? pass(section, n) : TURNED;
            let(section);
            if (isOpen) {
                return answerTo(told, index);
            }
        }
        return passed;
    }

    private Section sectionOn(int route, int index) {
        return standing[routePlaces[route * ROUTE_ROOM + index]];
    }

    private int answerTo(int told, int index) {
        if (told < 0) {
            return told;
        }
        return told == REFUSED ? REFUSED_BASE - index : passed;
    }

    // A bridge's pass holds those of points and of a plain one: only the outermost, this one, is counted.
    private int pass(Section section, int n) {
        int told;
        switch (section.kind) {
            case BRIDGE: told = passBridge(section, n); break;
            case POINTS: told = passPoints(section, n); break;
            default: told = passPlain(section, n);
        }
        if (told == WENT) {
            passed++;
        }
        return told;
    }

    private int passBridge(Section section, int n) {
        claim(section);
        int told = REFUSED;
        if (n <= section.mark) {
            told = passPoints(section, n);
            if (told == WENT) {
                section.mark--;
            }
        }
        let(section);
        return told;
    }

    private int passPoints(Section section, int n) {
        claim(section);
        int told = TURNED;
        if (section.leg == 1) {
            section.leg = 0;
        } else {
            section.leg = 1;
            told = passPlain(section, n);
        }
        let(section);
        return told;
    }

    private int passPlain(Section section, int n) {
        claim(section);
        int told = FAILED_FULL;
        if (section.hasRoomFor(n)) {
            section.axles += n;
            told = WENT;
        }
        let(section);
        return told;
    }

    private int shuntOnto(Section giver, Section taker, int n) {
        if (taker == null) {
            return FAILED_NULL;
        }
        claim(taker);
        int answer = 0;
        if (giver.axles >= n && (giver == taker || taker.hasRoomFor(n))) {
            giver.axles -= n;
            taker.axles += n;
            answer = 1;
        }
        let(taker);
        return answer;
    }

    private void claim(Section section) {
        section.held++;
        section.claims++;
        if (section.held > section.most) {
            section.most = section.held;
        }
        if (traceLength < TRACE_ROOM) {
            trace[traceLength++] = CLAIM_SIGN + section.number;
        }
    }

    private void let(Section section) {
        section.held--;
        if (traceLength < TRACE_ROOM) {
            trace[traceLength++] = LET_SIGN + section.number;
        }
    }

    private static final class Section {
        private final int number;
        private final int kind;
        private final int limit;
        private int mark;
        private int axles;
        private int leg;
        private int claims;
        private int held;
        private int most;

        private Section(int number, int kind, int limit, int mark) {
            this.number = number;
            this.kind = kind;
            this.limit = limit;
            this.mark = mark;
        }

        private boolean hasRoomFor(int n) {
            return (long) axles + n <= limit;
        }
    }
}
