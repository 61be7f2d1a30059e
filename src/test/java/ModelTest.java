import java.util.ArrayList;
import java.util.List;

/**
 * Runs of mixed calls, each answered by SignalBox and by a model of the document that is built another way:
 * kinds as subclasses, claims as resources that Java itself closes, failures as exceptions.
 */
public final class ModelTest {
    private static final int OBJECTS = 60000;
    private static final int CALLS = 512;
    // What difference() asks: passed(), trace() of -2 .. 151, count() of -1 .. 11, told() of -1 .. 12 with -1 .. 9.
    private static final int QUESTIONS = 1 + 154 + 13 + 14 * 11;
    private static final int SHOWN = 20;

    private static int wrong = 0;

    public static void main(String[] args) {
        for (int seed = 1; seed <= OBJECTS && wrong < SHOWN; seed++) {
            Dice dice = new Dice(seed);
            report(seed, seed % 2 == 0 ? askAllAtTheEnd(dice) : askBetween(dice));
        }
        System.out.println(wrong == 0 ? "all answers are the model's" : wrong + " answers are not the model's");
        if (wrong != 0) System.exit(1);
    }

    private static void report(int seed, String difference) {
        if (difference != null) {
            wrong++;
            System.out.println("object " + seed + ", " + difference);
        }
    }

    // Nothing is promised behind an object's 512th call, so its whole state can be asked once alone.
    private static String askAllAtTheEnd(Dice dice) {
        SignalBox box = new SignalBox();
        Model model = new Model();
        int changes = 1 + dice.below(CALLS - QUESTIONS);
        for (int call = 0; call < changes; call++) {
            String found = oneCall(dice, box, model);
            if (found != null) return "call " + call + ": " + found;
        }
        String found = difference(box, model);
        return found == null ? null : "behind call " + (changes - 1) + ": " + found;
    }

    private static String askBetween(Dice dice) {
        SignalBox box = new SignalBox();
        Model model = new Model();
        for (int call = 0; call < CALLS; call++) {
            String found = dice.below(2) == 0 ? oneQuestion(dice, box, model) : oneCall(dice, box, model);
            if (found != null) return "call " + call + ": " + found;
        }
        return null;
    }

    private static String oneQuestion(Dice dice, SignalBox box, Model model) {
        switch (dice.below(8)) {
            case 0: return unlike("passed()", box.passed(), model.passed);
            case 1: case 2: case 3: {
                int k = dice.below(dice.below(2) == 0 ? 20 : 154) - 2;
                return unlike("trace(" + k + ")", box.trace(k), model.trace(k));
            }
            case 4: {
                int what = dice.nearly(11);
                return unlike("count(" + what + ")", box.count(what), model.count(what));
            }
            default: {
                int place = dice.nearly(12), what = dice.nearly(9);
                return unlike("told(" + place + ", " + what + ")", box.told(place, what), model.told(place, what));
            }
        }
    }

    private static String oneCall(Dice dice, SignalBox box, Model model) {
        int place = dice.nearly(12), other = dice.nearly(12), route = dice.nearly(6), n = dice.axles();
        switch (dice.below(16)) {
            case 0: case 1: case 2: {
                int kind = dice.nearly(3), limit = dice.limit(), mark = dice.limit();
                return unlike("section(" + place + ", " + kind + ", " + limit + ", " + mark + ")",
                        box.section(place, kind, limit, mark), model.section(place, kind, limit, mark));
            }
            case 3: return unlike("share(" + place + ", " + other + ")", box.share(place, other), model.share(place, other));
            case 4: return dice.below(3) > 0 ? null : unlike("remove(" + place + ")", box.remove(place), model.remove(place));
            case 5: return unlike("same(" + place + ", " + other + ")", box.same(place, other), model.same(place, other));
            case 6: case 7: case 8: return unlike("lead(" + route + ", " + place + ")", box.lead(route, place), model.lead(route, place));
            case 9: return dice.below(6) > 0 ? null : unlike("unlead(" + route + ")", box.unlead(route), model.unlead(route));
            case 10: return unlike("shunt(" + place + ", " + other + ", " + n + ")", box.shunt(place, other, n), model.shunt(place, other, n));
            default: {
                int way = dice.nearly(5);
                return unlike("run(" + route + ", " + way + ", " + n + ")", box.run(route, way, n), model.run(route, way, n));
            }
        }
    }

    /** Compares all that can be asked without a change. */
    private static String difference(SignalBox box, Model model) {
        String found = unlike("passed()", box.passed(), model.passed);
        for (int k = -2; k <= 151 && found == null; k++) found = unlike("trace(" + k + ")", box.trace(k), model.trace(k));
        for (int what = -1; what <= 11 && found == null; what++) found = unlike("count(" + what + ")", box.count(what), model.count(what));
        for (int place = -1; place <= 12 && found == null; place++) {
            for (int what = -1; what <= 9 && found == null; what++) {
                found = unlike("told(" + place + ", " + what + ")", box.told(place, what), model.told(place, what));
            }
        }
        return found;
    }

    private static String unlike(String call, int got, int want) {
        return got == want ? null : call + " answered " + got + ", the model " + want;
    }

    /** A fixed sequence for each seed, so that a failure can be run again. */
    private static final class Dice {
        private long state;

        Dice(int seed) {
            state = seed * 0x9E3779B97F4A7C15L;
        }

        int below(int bound) {
            state = state * 6364136223846793005L + 1442695040888963407L;
            return (int) ((state >>> 33) % bound);
        }

        /** Mostly 0 .. bound - 1, now and then just beside it. */
        int nearly(int bound) {
            if (below(40) == 0) return below(2) == 0 ? -1 : bound;
            return below(bound);
        }

        int axles() {
            switch (below(12)) {
                case 0: return 0;
                case 1: return 1000;
                case 2: return below(1003) - 1;
                default: return below(12);
            }
        }

        int limit() {
            switch (below(12)) {
                case 0: return 0;
                case 1: return 100000;
                case 2: return below(100003) - 1;
                case 3: return below(3);
                case 4: return below(20);
                default: return below(2000);
            }
        }
    }

    private static final class Failure extends RuntimeException {
        private static final long serialVersionUID = 1L;
        final int code;

        Failure(int code) {
            this.code = code;
        }
    }

    private static final class Refused extends RuntimeException {
        private static final long serialVersionUID = 1L;
    }

    private static final class Claim implements AutoCloseable {
        private final Plain section;

        Claim(Plain section) {
            this.section = section;
            section.held++;
            section.claims++;
            section.most = Math.max(section.most, section.held);
            section.model.trace.add(1000 + section.number);
        }

        void hold() {
        }

        @Override
        public void close() {
            section.held--;
            section.model.trace.add(2000 + section.number);
        }
    }

    private static class Plain {
        final Model model;
        final int number, kind, limit;
        int mark, axles, leg, claims, held, most;

        Plain(Model model, int number, int kind, int limit, int mark) {
            this.model = model;
            this.number = number;
            this.kind = kind;
            this.limit = limit;
            this.mark = mark;
        }

        int pass(int n) {
            try (Claim claim = new Claim(this)) {
                claim.hold();
                if ((long) axles + n > limit) throw new Failure(20);
                axles += n;
                return 0;
            }
        }
    }

    private static class Points extends Plain {
        Points(Model model, int number, int kind, int limit, int mark) {
            super(model, number, kind, limit, mark);
        }

        @Override
        int pass(int n) {
            try (Claim claim = new Claim(this)) {
                claim.hold();
                leg = 1 - leg;
                return leg == 0 ? 1 : super.pass(n);
            }
        }
    }

    private static final class Bridge extends Points {
        Bridge(Model model, int number, int kind, int limit, int mark) {
            super(model, number, kind, limit, mark);
        }

        @Override
        int pass(int n) {
            try (Claim claim = new Claim(this)) {
                claim.hold();
                if (n > mark) return 2;
                int told = super.pass(n);
                if (told == 0) mark--;
                return told;
            }
        }
    }

    private static final class Model {
        final Plain[] places = new Plain[12];
        final List<List<Integer>> routes = new ArrayList<>();
        final List<Integer> trace = new ArrayList<>();
        int made, runs, byNull, byFull, passed, index;

        Model() {
            for (int route = 0; route < 6; route++) routes.add(new ArrayList<>());
        }

        static boolean within(int number, int bound) {
            return 0 <= number && number < bound;
        }

        int section(int place, int kind, int limit, int mark) {
            if (!within(place, 12) || !within(kind, 3) || !within(limit, 100001) || !within(mark, 100001)) return -1;
            Plain made = kind == 0 ? new Plain(this, this.made, kind, limit, mark)
                    : kind == 1 ? new Points(this, this.made, kind, limit, mark)
                    : new Bridge(this, this.made, kind, limit, mark);
            places[place] = made;
            return this.made++;
        }

        int share(int from, int to) {
            if (!within(from, 12) || !within(to, 12)) return -1;
            places[to] = places[from];
            return places[from] == null ? 0 : 1;
        }

        int remove(int place) {
            if (!within(place, 12)) return -1;
            boolean had = places[place] != null;
            places[place] = null;
            return had ? 1 : 0;
        }

        int same(int place, int other) {
            if (!within(place, 12) || !within(other, 12)) return -1;
            return places[place] == places[other] ? 1 : 0;
        }

        int lead(int route, int place) {
            if (!within(route, 6) || !within(place, 12)) return -1;
            if (routes.get(route).size() == 8) return -2;
            routes.get(route).add(place);
            return routes.get(route).size();
        }

        int unlead(int route) {
            if (!within(route, 6)) return -1;
            int had = routes.get(route).size();
            routes.get(route).clear();
            return had;
        }

        int shunt(int from, int to, int n) {
            if (!within(from, 12) || !within(to, 12) || !within(n, 1001)) return -1;
            trace.clear();
            try (Claim one = new Claim(at(from)); Claim two = new Claim(at(to))) {
                if (one.section.axles < n) return 0;
                if (one.section != two.section && two.section.axles + n > two.section.limit) return 0;
                one.section.axles -= n;
                two.section.axles += n;
                return 1;
            } catch (Failure failure) {
                return -10 - failure.code;
            }
        }

        int run(int route, int way, int n) {
            if (!within(route, 6) || !within(way, 5) || !within(n, 1001)) return -1;
            runs++;
            passed = 0;
            trace.clear();
            try {
                go(routes.get(route), way, n);
                return passed;
            } catch (Refused refused) {
                return -100 - index;
            } catch (Failure failure) {
                if (failure.code == 1) byNull++;
                else byFull++;
                return -10 - failure.code;
            }
        }

        void go(List<Integer> route, int way, int n) {
            switch (way) {
                case 0: alone(route, n); break;
                case 1: twoByTwo(route, n, 0); break;
                case 2: all(route, n, 0); break;
                case 3: first(route, n); break;
                default:
                    int rounds = 0;
                    while (rounds < 10 && alone(route, n)) rounds++;
            }
        }

        Plain at(int place) {
            if (places[place] == null) throw new Failure(1);
            return places[place];
        }

        /** Whether the run goes on. */
        boolean step(Plain section, int n, int index) {
            this.index = index;
            int told = section.pass(n);
            if (told == 2) throw new Refused();
            if (told == 0) passed++;
            return told == 0;
        }

        boolean alone(List<Integer> route, int n) {
            for (int i = 0; i < route.size(); i++) {
                try (Claim claim = new Claim(at(route.get(i)))) {
                    if (!step(claim.section, n, i)) return false;
                }
            }
            return true;
        }

        void twoByTwo(List<Integer> route, int n, int i) {
            if (i == route.size()) return;
            boolean on;
            try (Claim claim = new Claim(at(route.get(i)))) {
                if (i + 1 == route.size()) {
                    on = step(claim.section, n, i);
                } else {
                    try (Claim next = new Claim(at(route.get(i + 1)))) {
                        next.hold();
                        on = step(claim.section, n, i);
                    }
                }
            }
            if (on) twoByTwo(route, n, i + 1);
        }

        void all(List<Integer> route, int n, int i) {
            if (i < route.size()) {
                try (Claim claim = new Claim(at(route.get(i)))) {
                    claim.hold();
                    all(route, n, i + 1);
                }
                return;
            }
            for (int k = 0; k < route.size(); k++) {
                if (!step(at(route.get(k)), n, k)) return;
            }
        }

        void first(List<Integer> route, int n) {
            for (int i = 0; i < route.size(); i++) {
                if (places[route.get(i)] == null) continue;
                try (Claim claim = new Claim(at(route.get(i)))) {
                    Plain section = claim.section;
                    if (section.axles + n <= section.limit && section.leg != 1) {
                        step(section, n, i);
                        return;
                    }
                }
            }
        }

        int trace(int k) {
            int size = Math.min(150, trace.size());
            if (k == -1) return size;
            return within(k, size) ? trace.get(k) : -1;
        }

        int told(int place, int what) {
            if (!within(place, 12) || !within(what, 9) || places[place] == null) return -1;
            Plain section = places[place];
            int[] all = {section.number, section.kind, section.limit, section.mark, section.axles,
                    section.leg, section.claims, section.held, section.most};
            return all[what];
        }

        int count(int what) {
            if (!within(what, 11)) return -1;
            if (what >= 5) return routes.get(what - 5).size();
            int with = 0;
            for (Plain section : places) with += section == null ? 0 : 1;
            return new int[] {made, with, runs, byNull, byFull}[what];
        }
    }
}
