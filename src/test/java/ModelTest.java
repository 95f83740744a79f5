import java.util.ArrayList;
import java.util.Arrays;
import java.util.Collections;
import java.util.HashSet;
import java.util.LinkedHashSet;
import java.util.List;
import java.util.Random;
import java.util.Set;
import java.util.TreeMap;
import java.util.TreeSet;

/**
 * Few crossings joined in every way, and runs of calls on made-up diagrams, compared with a model
 * that finds the answers another way: its crossings lie still, and what is turned is which ends
 * go out and which strand is lower.
 */
public final class ModelTest {
    private static final int RUNS = 2000;
    private static final int CALLS = 512;
    private static final int FEW_CROSSINGS = 3;
    /** Counted by a program in another language: 2 of one crossing, 24 of two, 656 of three. */
    private static final int DIAGRAMS_OF_FEW = 682;
    private static final int NO_SEED = 0;

    private static int wrong = 0;
    private static final int[] faults = new int[4];

    public static void main(String[] args) {
        int few = 0;
        for (int crossings = 1; crossings <= FEW_CROSSINGS; crossings++) {
            few += new FewCrossings(crossings).all();
        }
        if (few != DIAGRAMS_OF_FEW) {
            wrong++;
            System.out.println(few + " codes of few crossings are diagrams, due are " + DIAGRAMS_OF_FEW);
        }
        Arrays.fill(faults, 0);
        for (int seed = 1; seed <= RUNS && wrong < 20; seed++) {
            new Run(seed).all();
        }
        for (int fault = 0; fault < faults.length; fault++) {
            if (faults[fault] < 100) {
                wrong++;
                System.out.println("the runs had only " + faults[fault] + " checks that answer " + fault);
            }
        }
        System.out.println("ModelTest: checks that answer 0, 1, 2, 3: " + Arrays.toString(faults));
        System.out.println(wrong == 0 ? "ModelTest: all as due" : "ModelTest: " + wrong + " wrong");
        if (wrong != 0) {
            System.exit(1);
        }
    }

    /** One end of an edge, at an end of a crossing. */
    private record End(Tangle at, int side) {
        int label() {
            return at.label[side];
        }

        boolean out() {
            return at.out[side];
        }

        boolean upper() {
            return side % 2 != at.lowerSides;
        }

        End turned(int by) {
            return new End(at, Math.floorMod(side + by, 4));
        }
    }

    /** A crossing that lies still: four sides, counterclockwise. */
    private static final class Tangle {
        final int[] label = new int[4];
        final boolean[] out = new boolean[4];
        int lowerSides;

        static Tangle of(int sign, int[] labels) {
            Tangle t = new Tangle();
            for (int side = 0; side < 4; side++) {
                t.label[side] = labels[side];
            }
            t.out[2] = true;
            t.out[sign == 1 ? 1 : 3] = true;
            return t;
        }

        int lowerIn() {
            return out[lowerSides] ? lowerSides + 2 : lowerSides;
        }

        int upperIn() {
            return out[1 - lowerSides] ? 3 - lowerSides : 1 - lowerSides;
        }

        int place(int side) {
            return Math.floorMod(side - lowerIn(), 4);
        }

        int labelAt(int place) {
            return label[(lowerIn() + place) % 4];
        }

        int sign() {
            return place(upperIn()) == 3 ? 1 : -1;
        }
    }

    private static final class Model {
        List<Tangle> put = new ArrayList<>();
        List<Tangle> tangles = new ArrayList<>();
        int circles = 0;
        int which = -1;

        static TreeMap<Integer, List<End>> ends(List<Tangle> tangles) {
            TreeMap<Integer, List<End>> ends = new TreeMap<>();
            for (Tangle t : tangles) {
                for (int side = 0; side < 4; side++) {
                    ends.computeIfAbsent(t.label[side], l -> new ArrayList<>()).add(new End(t, side));
                }
            }
            return ends;
        }

        End end(int label, boolean out) {
            for (Tangle t : tangles) {
                for (int side = 0; side < 4; side++) {
                    if (t.label[side] == label && t.out[side] == out) {
                        return new End(t, side);
                    }
                }
            }
            throw new IllegalStateException("an edge without an end");
        }

        int crossing(int sign, int[] labels) {
            boolean fine = Math.abs(sign) == 1 && put.size() < 20;
            for (int l : labels) {
                fine &= l > 0 && l < 10000;
            }
            if (fine) {
                put.add(Tangle.of(sign, labels));
            }
            return fine ? put.size() : -1;
        }

        int check(int count) {
            if (count < 0 || count > 20) {
                return -1;
            }
            List<Tangle> looked = put;
            put = new ArrayList<>();
            which = -1;
            int fault = fault(looked);
            if (fault == 0) {
                tangles = looked;
                circles = count;
            }
            return fault;
        }

        private int fault(List<Tangle> looked) {
            TreeMap<Integer, List<End>> ends = ends(looked);
            for (int label : ends.keySet()) {
                if (ends.get(label).size() != 2) {
                    which = label;
                    return 1;
                }
            }
            for (int label : ends.keySet()) {
                if (ends.get(label).get(0).out() == ends.get(label).get(1).out()) {
                    which = label;
                    return 2;
                }
            }
            Model m = new Model();
            m.tangles = looked;
            for (Set<Integer> piece : m.pieces()) {
                int faces = 0;
                for (List<Integer> face : m.faces()) {
                    int k = looked.indexOf(m.end(Math.abs(face.get(0)), true).at());
                    faces += piece.contains(k) ? 1 : 0;
                }
                if (faces != piece.size() + 2) {
                    which = Collections.min(piece);
                    return 3;
                }
            }
            return 0;
        }

        List<Set<Integer>> pieces() {
            List<Set<Integer>> pieces = new ArrayList<>();
            Set<Integer> seen = new HashSet<>();
            for (int k = 0; k < tangles.size(); k++) {
                if (!seen.contains(k)) {
                    Set<Integer> piece = new TreeSet<>();
                    flood(k, piece);
                    seen.addAll(piece);
                    pieces.add(piece);
                }
            }
            return pieces;
        }

        private void flood(int k, Set<Integer> piece) {
            if (piece.add(k)) {
                for (int l : tangles.get(k).label) {
                    flood(tangles.indexOf(end(l, true).at()), piece);
                    flood(tangles.indexOf(end(l, false).at()), piece);
                }
            }
        }

        /** Each face as a list of darts, below 0 against the edge. */
        List<List<Integer>> faces() {
            List<List<Integer>> faces = new ArrayList<>();
            Set<Integer> seen = new HashSet<>();
            for (int label : ends(tangles).keySet()) {
                for (int dart : new int[] {label, -label}) {
                    List<Integer> face = new ArrayList<>();
                    for (int d = dart; seen.add(d); ) {
                        face.add(d);
                        End leaving = end(Math.abs(d), d < 0).turned(-1);
                        d = leaving.out() ? leaving.label() : -leaving.label();
                    }
                    if (!face.isEmpty()) {
                        faces.add(face);
                    }
                }
            }
            return faces;
        }

        int next(int label) {
            return end(label, false).turned(2).label();
        }

        int seifertNext(int label) {
            End in = end(label, false);
            return in.turned(1).out() ? in.turned(1).label() : in.turned(-1).label();
        }

        List<Set<Integer>> rounds(boolean seifert) {
            List<Set<Integer>> rounds = new ArrayList<>();
            Set<Integer> seen = new HashSet<>();
            for (int label : ends(tangles).keySet()) {
                Set<Integer> round = new LinkedHashSet<>();
                for (int l = label; seen.add(l); l = seifert ? seifertNext(l) : next(l)) {
                    round.add(l);
                }
                if (!round.isEmpty()) {
                    rounds.add(round);
                }
            }
            return rounds;
        }

        int leastOfArc(int label) {
            int least = label;
            int l = label;
            for (int step = 0; step < 50 && end(l, true).upper(); step++) {
                l = end(l, true).turned(2).label();
                least = Math.min(least, l);
            }
            l = label;
            for (int step = 0; step < 50 && end(l, false).upper(); step++) {
                l = next(l);
                least = Math.min(least, l);
            }
            return least;
        }

        static int indexOf(List<? extends Iterable<Integer>> sets, int member) {
            for (int i = 0; i < sets.size(); i++) {
                for (int m : sets.get(i)) {
                    if (m == member) {
                        return i;
                    }
                }
            }
            throw new IllegalStateException("a member of nothing");
        }

        int many(int what) {
            Set<Integer> arcs = new HashSet<>();
            int alternating = 1;
            for (int label : ends(tangles).keySet()) {
                arcs.add(leastOfArc(label));
                if (end(label, true).upper() == end(label, false).upper()) {
                    alternating = 0;
                }
            }
            int[] answers = {
                tangles.size(), 2 * tangles.size(), rounds(false).size() + circles, pieces().size() + circles, circles,
                tangles.stream().mapToInt(Tangle::sign).sum(), faces().size(), arcs.size() + circles,
                rounds(true).size() + circles, alternating, put.size()
            };
            return what >= 0 && what < answers.length ? answers[what] : -1000;
        }

        int look(int k, int what) {
            if (k < 0 || k >= tangles.size() || what < 0 || what > 7) {
                return -1000;
            }
            Tangle t = tangles.get(k);
            if (what < 4) {
                return t.labelAt(what);
            }
            if (what == 4) {
                return t.sign();
            }
            return what == 5 ? indexOf(pieces(), k) : indexOf(rounds(false), t.labelAt(what == 6 ? 2 : 3));
        }

        int edge(int label, int what) {
            if (!ends(tangles).containsKey(label) || what < 0 || what > 8) {
                return -1;
            }
            End from = end(label, true);
            End to = end(label, false);
            int[] answers = {
                tangles.indexOf(from.at()), from.at().place(from.side()), tangles.indexOf(to.at()),
                to.at().place(to.side()), next(label), indexOf(rounds(false), label), indexOf(faces(), label),
                indexOf(faces(), -label), leastOfArc(label)
            };
            return answers[what];
        }

        int component(int k, int what) {
            List<Set<Integer>> rounds = rounds(false);
            int all = rounds.size() + circles;
            if (k < 0 || k >= all || what < 0 || what >= 10L + all || what > 3 && what < 10) {
                return -1000;
            }
            boolean circle = k >= rounds.size();
            switch (what) {
                case 0:
                    return circle ? 0 : Collections.min(rounds.get(k));
                case 1:
                    return circle ? 0 : rounds.get(k).size();
                case 2:
                    return signs(k, k);
                case 3:
                    return circle ? k - rounds.size() + pieces().size() : pieceOf(rounds.get(k));
                default:
                    return what - 10 == k ? 0 : half(signs(k, what - 10));
            }
        }

        private int pieceOf(Set<Integer> round) {
            return indexOf(pieces(), tangles.indexOf(end(round.iterator().next(), true).at()));
        }

        private static int half(int sum) {
            if (sum % 2 != 0) {
                throw new IllegalStateException("an odd sum of signs");
            }
            return sum / 2;
        }

        private int signs(int a, int b) {
            List<Set<Integer>> rounds = rounds(false);
            int sum = 0;
            for (Tangle t : tangles) {
                int lower = indexOf(rounds, t.labelAt(0));
                int upper = indexOf(rounds, t.labelAt(1));
                if (lower == a && upper == b || lower == b && upper == a) {
                    sum += t.sign();
                }
            }
            return sum;
        }

        int face(int k, int i) {
            List<List<Integer>> faces = faces();
            if (k < 0 || k >= faces.size() || i < -1 || i >= faces.get(k).size()) {
                return 0;
            }
            return i == -1 ? faces.get(k).size() : faces.get(k).get(i);
        }

        boolean change(int k) {
            if (k < 0 || k >= tangles.size()) {
                return false;
            }
            tangles.get(k).lowerSides ^= 1;
            return true;
        }

        boolean reverse(int k) {
            List<Set<Integer>> rounds = rounds(false);
            if (k < 0 || k >= rounds.size() + circles) {
                return false;
            }
            for (Tangle t : tangles) {
                for (int side = 0; side < 4; side++) {
                    t.out[side] ^= k < rounds.size() && rounds.get(k).contains(t.label[side]);
                }
            }
            return true;
        }

        void number() {
            TreeMap<Integer, Integer> anew = new TreeMap<>();
            for (Set<Integer> round : rounds(false)) {
                for (int label : round) {
                    anew.put(label, anew.size() + 1);
                }
            }
            for (Tangle t : tangles) {
                for (int side = 0; side < 4; side++) {
                    t.label[side] = anew.get(t.label[side]);
                }
            }
        }

        boolean smooth(int k) {
            if (k < 0 || k >= tangles.size()) {
                return false;
            }
            Tangle gone = tangles.remove(k);
            int lowerIn = gone.lowerIn();
            int upperIn = gone.upperIn();
            fuse(gone.label[lowerIn], gone.label[(upperIn + 2) % 4]);
            fuse(gone.label[upperIn], gone.label[(lowerIn + 2) % 4]);
            return true;
        }

        /** On a sphere no edge leads from a strand's way out to its way in: the two pairs are apart. */
        private void fuse(int a, int b) {
            if (a == b) {
                circles++;
            }
            for (Tangle t : tangles) {
                for (int side = 0; side < 4; side++) {
                    if (t.label[side] == a || t.label[side] == b) {
                        t.label[side] = Math.min(a, b);
                    }
                }
            }
        }
    }

    /** All ways to join the ways in of some crossings to their ways out, for all signs; one labelling each. */
    private static final class FewCrossings {
        final int crossings;
        final int[] outOf;
        final boolean[] taken;
        final Random random;
        int signs;
        int diagrams = 0;

        FewCrossings(int crossings) {
            this.crossings = crossings;
            outOf = new int[2 * crossings];
            taken = new boolean[2 * crossings];
            random = new Random(crossings);
        }

        /** Answers how many are diagrams. */
        int all() {
            for (signs = 0; signs < 1 << crossings; signs++) {
                join(0);
            }
            return diagrams;
        }

        private void join(int edge) {
            if (edge == outOf.length) {
                compare(code());
                return;
            }
            for (int out = 0; out < outOf.length && wrong < 20; out++) {
                if (!taken[out]) {
                    taken[out] = true;
                    outOf[edge] = out;
                    join(edge + 1);
                    taken[out] = false;
                }
            }
        }

        /** Edge e goes to lower place 0 of crossing e / 2 when e is even, to its upper way in when it is odd. */
        private List<int[]> code() {
            List<Integer> labels = new ArrayList<>();
            for (int label = 1; label <= outOf.length; label++) {
                labels.add(label);
            }
            Collections.shuffle(labels, random);
            List<int[]> code = new ArrayList<>();
            for (int k = 0; k < crossings; k++) {
                code.add(new int[] {(signs >> k & 1) == 0 ? 1 : -1, 0, 0, 0, 0});
            }
            for (int e = 0; e < outOf.length; e++) {
                int[] to = code.get(e / 2);
                to[1 + (e % 2 == 0 ? 0 : to[0] == 1 ? 3 : 1)] = labels.get(e);
                int[] from = code.get(outOf[e] / 2);
                from[1 + (outOf[e] % 2 == 0 ? 2 : from[0] == 1 ? 1 : 3)] = labels.get(e);
            }
            return code;
        }

        /** Each change begins on an object of its own, so that all see the same diagram. */
        private void compare(List<int[]> code) {
            Run run = checked(code);
            if (run.m.tangles.isEmpty()) {
                return;
            }
            diagrams++;
            run.askAll();
            int components = run.m.rounds(false).size() + run.m.circles;
            for (int kind = 0; kind < 5; kind++) {
                int most = kind < 2 ? 1 : kind == 2 ? components : crossings;
                for (int k = 0; k < most && wrong < 20; k++) {
                    Run changed = checked(code);
                    changed.changeBy(kind, k);
                    changed.askAll();
                }
            }
        }

        private Run checked(List<int[]> code) {
            Run run = new Run(NO_SEED);
            for (int[] c : code) {
                run.putOne(c);
            }
            run.checkOnce(1);
            return run;
        }
    }

    /** One run: some checks, each with calls behind it. */
    private static final class Run {
        final int seed;
        final Random random;
        final DiagramCode x = new DiagramCode();
        final Model m = new Model();
        final List<String> calls = new ArrayList<>();

        Run(int seed) {
            this.seed = seed;
            this.random = new Random(seed);
        }

        void all() {
            while (calls.size() < CALLS - 60 && wrong < 20) {
                for (int[] c : someCrossings()) {
                    putOne(c);
                }
                checkOnce(random.nextInt(10) == 0 ? oddNumber() : random.nextInt(random.nextInt(5) == 0 ? 21 : 3));
                for (int n = random.nextInt(60); n > 0 && calls.size() < CALLS; n--) {
                    if (random.nextInt(6) == 0) {
                        changeSomething();
                    } else {
                        askSomething();
                    }
                }
            }
        }

        private void due(String call, int got, int want) {
            calls.add(call);
            if (got != want) {
                wrong++;
                String run = seed == NO_SEED ? "few crossings: " : "run " + seed + ": ";
                System.out.println(run + String.join(" ", calls) + " answered " + got + ", due is " + want);
            }
        }

        private void due(String call, boolean got, boolean want) {
            due(call, got ? 1 : 0, want ? 1 : 0);
        }

        void putOne(int[] c) {
            String call = "crossing(" + c[0] + ", " + c[1] + ", " + c[2] + ", " + c[3] + ", " + c[4] + ")";
            due(call, x.crossing(c[0], c[1], c[2], c[3], c[4]), m.crossing(c[0], new int[] {c[1], c[2], c[3], c[4]}));
        }

        void checkOnce(int circles) {
            int want = m.check(circles);
            if (want >= 0) {
                faults[want]++;
            }
            due("check(" + circles + ")", x.check(circles), want);
            due("which()", x.which(), m.which);
        }

        void askAll() {
            for (int what = 0; what <= 10; what++) {
                ask("many", what, 0);
            }
            for (int k = 0; k < m.tangles.size(); k++) {
                askEach("look", k, 0, 7);
            }
            for (int label : Model.ends(m.tangles).keySet()) {
                askEach("edge", label, 0, 8);
            }
            int components = m.rounds(false).size() + m.circles;
            for (int k = 0; k < components; k++) {
                askEach("component", k, 0, 3);
                askEach("component", k, 10, 10 + components);
            }
            List<List<Integer>> faces = m.faces();
            for (int k = 0; k < faces.size(); k++) {
                askEach("face", k, -1, faces.get(k).size());
            }
        }

        private void askEach(String name, int k, int first, int last) {
            for (int what = first; what <= last; what++) {
                ask(name, k, what);
            }
        }

        private int oddNumber() {
            int[] odd = {Integer.MIN_VALUE, Integer.MAX_VALUE, -1000, -2, -1, 0, 1, 8, 11, 20, 21, 40, 60, 80, 9999, 10000};
            return odd[random.nextInt(odd.length)];
        }

        private int indexNear(int bound) {
            return random.nextInt(25) == 0 ? oddNumber() : random.nextInt(bound + 2) - 1;
        }

        private int someLabel() {
            if (m.tangles.isEmpty() || random.nextInt(25) == 0) {
                return oddNumber();
            }
            return m.tangles.get(random.nextInt(m.tangles.size())).label[random.nextInt(4)];
        }

        private void askSomething() {
            int components = m.rounds(false).size() + m.circles;
            switch (random.nextInt(6)) {
                case 0 -> ask("many", indexNear(11), 0);
                case 1 -> ask("look", indexNear(m.tangles.size()), indexNear(8));
                case 2 -> ask("edge", someLabel(), indexNear(9));
                case 3 -> ask("component", indexNear(components), indexNear(4));
                case 4 -> ask("component", indexNear(components), 10 + indexNear(components));
                default -> ask("face", indexNear(m.faces().size()), indexNear(5));
            }
        }

        private void ask(String name, int a, int b) {
            String call = name + "(" + a + ", " + b + ")";
            switch (name) {
                case "many" -> due("many(" + a + ")", x.many(a), m.many(a));
                case "look" -> due(call, x.look(a, b), m.look(a, b));
                case "edge" -> due(call, x.edge(a, b), m.edge(a, b));
                case "component" -> due(call, x.component(a, b), m.component(a, b));
                default -> due(call, x.face(a, b), m.face(a, b));
            }
        }

        private void changeSomething() {
            int kind = random.nextInt(5);
            changeBy(kind, indexNear(kind == 2 ? m.rounds(false).size() + 1 : m.tangles.size()));
        }

        void changeBy(int kind, int k) {
            switch (kind) {
                case 0 -> {
                    x.mirror();
                    for (int c = 0; c < m.tangles.size(); c++) {
                        m.change(c);
                    }
                    calls.add("mirror()");
                }
                case 1 -> {
                    x.number();
                    m.number();
                    calls.add("number()");
                }
                case 2 -> due("reverse(" + k + ")", x.reverse(k), m.reverse(k));
                case 3 -> due("change(" + k + ")", x.change(k), m.change(k));
                default -> due("smooth(" + k + ")", x.smooth(k), m.smooth(k));
            }
        }

        private List<int[]> someCrossings() {
            int kind = random.nextInt(10);
            if (kind == 0) {
                return scrawl();
            }
            if (kind == 1) {
                return surface();
            }
            List<int[]> crossings = braids();
            if (kind == 2) {
                spoil(crossings);
            }
            return crossings;
        }

        /** Labels at random, few enough to have a chance to fit. */
        private List<int[]> scrawl() {
            List<int[]> crossings = new ArrayList<>();
            int count = 1 + random.nextInt(2);
            for (int k = 0; k < count; k++) {
                int[] c = {random.nextBoolean() ? 1 : -1, 0, 0, 0, 0};
                for (int i = 1; i < 5; i++) {
                    c[i] = 1 + random.nextInt(2 * count);
                }
                crossings.add(c);
            }
            if (random.nextInt(4) == 0) {
                crossings.get(0)[random.nextInt(5)] = oddNumber();
            }
            return crossings;
        }

        /** Ways in and ways out joined at random: a diagram on some surface. */
        private List<int[]> surface() {
            int count = 1 + random.nextInt(3);
            List<Integer> ins = new ArrayList<>();
            for (int label = 1; label <= 2 * count; label++) {
                ins.add(label);
            }
            List<Integer> outs = new ArrayList<>(ins);
            Collections.shuffle(ins, random);
            Collections.shuffle(outs, random);
            List<int[]> crossings = new ArrayList<>();
            for (int k = 0; k < count; k++) {
                boolean plus = random.nextBoolean();
                int in = ins.get(2 * k + 1);
                int out = outs.get(2 * k + 1);
                crossings.add(new int[] {plus ? 1 : -1, ins.get(2 * k), plus ? out : in, outs.get(2 * k), plus ? in : out});
            }
            return crossings;
        }

        /** Closed braids side by side, which lie on spheres; labels and order of crossings mixed. */
        private List<int[]> braids() {
            List<int[]> crossings = new ArrayList<>();
            int most = random.nextInt(4) == 0 ? 20 : 8;
            int used = 0;
            while (crossings.size() < most && random.nextInt(5) != 0) {
                used = braid(crossings, 1 + random.nextInt(most - crossings.size()), used);
            }
            List<Integer> labels = new ArrayList<>();
            int reach = random.nextBoolean() ? 2 * crossings.size() : 9999;
            for (int label = 1; label <= reach; label++) {
                labels.add(label);
            }
            Collections.shuffle(labels, random);
            for (int[] c : crossings) {
                for (int i = 1; i < 5; i++) {
                    c[i] = labels.get(c[i] - 1);
                }
            }
            Collections.shuffle(crossings, random);
            return crossings;
        }

        /** Strands go up; a strand's top is joined to its bottom. Answers how many labels are used. */
        private int braid(List<int[]> crossings, int count, int used) {
            int strands = 2 + random.nextInt(4);
            int begin = crossings.size();
            int[] bottom = new int[strands];
            int[] top = new int[strands];
            for (int n = 0; n < count; n++) {
                int s = random.nextInt(strands - 1);
                for (int side = s; side <= s + 1; side++) {
                    if (top[side] == 0) {
                        top[side] = bottom[side] = ++used;
                    }
                }
                int left = ++used;
                int right = ++used;
                crossings.add(random.nextBoolean()
                    ? new int[] {-1, top[s], top[s + 1], right, left}
                    : new int[] {1, top[s + 1], right, left, top[s]});
                top[s] = left;
                top[s + 1] = right;
            }
            return closeBraid(crossings.subList(begin, crossings.size()), bottom, top, used);
        }

        private int closeBraid(List<int[]> crossings, int[] bottom, int[] top, int used) {
            TreeSet<Integer> kept = new TreeSet<>();
            for (int[] c : crossings) {
                for (int i = 1; i < 5; i++) {
                    for (int s = 0; s < top.length; s++) {
                        c[i] = c[i] == top[s] ? bottom[s] : c[i];
                    }
                    kept.add(c[i]);
                }
            }
            int first = kept.first();
            for (int[] c : crossings) {
                for (int i = 1; i < 5; i++) {
                    c[i] = first + kept.headSet(c[i]).size();
                }
            }
            return first + kept.size() - 1;
        }

        private void spoil(List<int[]> crossings) {
            if (crossings.isEmpty()) {
                return;
            }
            int[] one = crossings.get(random.nextInt(crossings.size()));
            int[] other = crossings.get(random.nextInt(crossings.size()));
            int i = 1 + random.nextInt(4);
            int j = 1 + random.nextInt(4);
            switch (random.nextInt(3)) {
                case 0 -> one[0] = -one[0];
                case 1 -> one[i] = 1 + random.nextInt(45);
                default -> {
                    int label = one[i];
                    one[i] = other[j];
                    other[j] = label;
                }
            }
        }
    }
}
