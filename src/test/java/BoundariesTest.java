import java.lang.reflect.InvocationTargetException;
import java.lang.reflect.Method;
import java.util.ArrayList;
import java.util.Arrays;
import java.util.Comparator;
import java.util.List;

/**
 * Each sentence of the document that names a boundary case (too small, too large, empty, full, a
 * wrap-around, a refused call) has a test of its own here. A test is a method whose name begins
 * with its promise, as promise3_..; the words of the document that it holds to stand above it.
 */
public final class BoundariesTest {
    private static final int PROMISES = 14;
    private static final int MOST_CALLS = 512;
    private static final int MIN = Integer.MIN_VALUE;
    private static final int MAX = Integer.MAX_VALUE;

    /** Four times this is 0 again, so that a place counted without a test of it would be there. */
    private static final int WRAPS_TO_0 = 1 << 30;

    private static final int[][] KINK = {c(1, 1, 1, 2, 2)};
    private static final int[][] TREFOIL = {c(1, 1, 5, 2, 4), c(1, 3, 1, 4, 6), c(1, 5, 3, 6, 2)};
    /** Component 0 has the edges 1, 2, component 1 the edges 3, 4. */
    private static final int[][] HOPF = {c(1, 1, 4, 2, 3), c(1, 4, 1, 3, 2)};
    /** The component 1, 2 lies wholly over the component 3, 4. */
    private static final int[][] LAID_OVER = {c(-1, 3, 1, 4, 2), c(1, 4, 1, 3, 2)};
    private static final int[][] ONCE = {c(1, 7, 8, 9, 10)};
    private static final int[][] OUT_AND_OUT = {c(1, 3, 2, 2, 3)};
    private static final int[][] TORUS = {c(1, 1, 2, 1, 2)};
    /** Rows for which check() answers 0, 1, 2, 3. */
    private static final int[][][] BY_FAULT = {KINK, ONCE, OUT_AND_OUT, TORUS};

    private static String test = "";
    private static int wrong = 0;

    public static void main(String[] args) throws IllegalAccessException {
        List<Method> tests = new ArrayList<>();
        boolean[] tested = new boolean[PROMISES + 1];
        for (Method m : BoundariesTest.class.getDeclaredMethods()) {
            if (m.getName().matches("promise[0-9]+_.*")) {
                tests.add(m);
                tested[promiseOf(m)] = true;
            }
        }
        tests.sort(Comparator.comparingInt(BoundariesTest::promiseOf).thenComparing(Method::getName));
        for (Method m : tests) {
            perform(m);
        }
        for (int promise = 1; promise <= PROMISES; promise++) {
            expect(tested[promise], "there is no test of promise " + promise);
        }
        System.out.println("BoundariesTest: " + tests.size() + " tests, " + (wrong == 0 ? "all as due" : wrong + " wrong"));
        if (wrong != 0) {
            System.exit(1);
        }
    }

    private static int promiseOf(Method m) {
        String name = m.getName();
        return Integer.parseInt(name.substring("promise".length(), name.indexOf('_')));
    }

    private static void perform(Method m) throws IllegalAccessException {
        test = m.getName();
        try {
            m.invoke(null);
        } catch (InvocationTargetException e) {
            expect(false, "threw " + e.getCause());
        }
    }

    private static void expect(boolean so, String otherwise) {
        if (!so) {
            wrong++;
            System.out.println(test + ": " + otherwise);
        }
    }

    private static int[] c(int sign, int l0, int l1, int l2, int l3) {
        return new int[] {sign, l0, l1, l2, l3};
    }

    private static int[][] both(int[][] some, int[][] more) {
        int[][] all = Arrays.copyOf(some, some.length + more.length);
        System.arraycopy(more, 0, all, some.length, more.length);
        return all;
    }

    /** Kinks side by side, each a piece: kink k has the edges 2 k + 1 and 2 k + 2. */
    private static int[][] kinks(int count) {
        int[][] row = new int[count][];
        for (int k = 0; k < count; k++) {
            row[k] = c(1, 2 * k + 1, 2 * k + 1, 2 * k + 2, 2 * k + 2);
        }
        return row;
    }

    /** A knot of kinks along one strand: its edges are 1, 2, .. along it, the even ones being loops. */
    private static int[][] curls(int count) {
        int[][] row = new int[count][];
        for (int k = 0; k < count; k++) {
            row[k] = c(1, 2 * k + 1, (2 * k + 2) % (2 * count) + 1, 2 * k + 2, 2 * k + 2);
        }
        return row;
    }

    /** A closed braid of two strands: crossing k has the edges 2 k + 1, 2 k + 2 below it. */
    private static int[][] braid(int count) {
        int[][] row = new int[count][];
        for (int k = 0; k < count; k++) {
            int above = (2 * k + 2) % (2 * count);
            row[k] = c(1, 2 * k + 2, above + 2, above + 1, 2 * k + 1);
        }
        return row;
    }

    /** What a call answered. */
    private record Answer(String call, int got) {
        void is(int want) {
            expect(got == want, call + " answered " + got + ", due is " + want);
        }

        void is(boolean want) {
            is(want ? 1 : 0);
        }
    }

    /** An object with its calls counted: behind the 512th nothing is promised. */
    private static final class Run {
        private final DiagramCode code = new DiagramCode();
        private int calls = 0;

        static Run of(int circles, int[]... row) {
            Run x = new Run();
            x.put(row);
            x.check(circles).is(0);
            return x;
        }

        private Answer answer(int got, String name, int... arguments) {
            calls++;
            expect(calls <= MOST_CALLS, "more calls than an object is used for");
            String inside = Arrays.toString(arguments);
            return new Answer("call " + calls + ", " + name + "(" + inside.substring(1, inside.length() - 1) + "),", got);
        }

        Answer crossing(int sign, int l0, int l1, int l2, int l3) {
            return answer(code.crossing(sign, l0, l1, l2, l3), "crossing", sign, l0, l1, l2, l3);
        }

        Answer check(int circles) {
            return answer(code.check(circles), "check", circles);
        }

        Answer which() {
            return answer(code.which(), "which");
        }

        Answer many(int what) {
            return answer(code.many(what), "many", what);
        }

        Answer look(int k, int what) {
            return answer(code.look(k, what), "look", k, what);
        }

        Answer edge(int label, int what) {
            return answer(code.edge(label, what), "edge", label, what);
        }

        Answer component(int k, int what) {
            return answer(code.component(k, what), "component", k, what);
        }

        Answer face(int k, int i) {
            return answer(code.face(k, i), "face", k, i);
        }

        Answer reverse(int k) {
            return answer(code.reverse(k) ? 1 : 0, "reverse", k);
        }

        Answer change(int k) {
            return answer(code.change(k) ? 1 : 0, "change", k);
        }

        Answer smooth(int k) {
            return answer(code.smooth(k) ? 1 : 0, "smooth", k);
        }

        void mirror() {
            code.mirror();
            calls++;
        }

        void number() {
            code.number();
            calls++;
        }

        void put(int[]... row) {
            for (int[] one : row) {
                crossing(one[0], one[1], one[2], one[3], one[4]);
            }
        }

        void manyAre(int... want) {
            for (int what = 0; what < want.length; what++) {
                many(what).is(want[what]);
            }
        }

        void crossingIs(int k, int... signAndLabels) {
            look(k, 4).is(signAndLabels[0]);
            for (int place = 0; place < 4; place++) {
                look(k, place).is(signAndLabels[place + 1]);
            }
        }

        void crossingsAre(int[]... row) {
            many(0).is(row.length);
            for (int k = 0; k < row.length; k++) {
                crossingIs(k, row[k]);
            }
        }

        void edgeIs(int label, int... want) {
            for (int what = 0; what < want.length; what++) {
                edge(label, what).is(want[what]);
            }
        }

        void componentIs(int k, int... want) {
            for (int what = 0; what < want.length; what++) {
                component(k, what).is(want[what]);
            }
        }

        void faceIs(int k, int... darts) {
            face(k, -1).is(darts.length);
            for (int i = 0; i < darts.length; i++) {
                face(k, i).is(darts[i]);
            }
        }

        void isWithoutCrossings(int circles) {
            manyAre(0, 0, circles, circles, circles, 0, 0, circles, circles, 1);
            look(0, 0).is(-1000);
            edge(1, 0).is(-1);
            face(0, -1).is(0);
            component(circles, 0).is(-1000);
        }

        /** All that is told of the diagram. */
        List<Integer> told() {
            List<Integer> told = new ArrayList<>();
            for (int what = 0; what < 10; what++) {
                told.add(many(what).got());
            }
            for (int k = 0; k < told.get(0); k++) {
                for (int what = 0; what < 8; what++) {
                    told.add(look(k, what).got());
                }
            }
            for (int k = 0; k < told.get(2); k++) {
                for (int what = 0; what < 4; what++) {
                    told.add(component(k, what).got());
                }
            }
            for (int k = 0; k < told.get(6); k++) {
                int darts = face(k, -1).got();
                told.add(darts);
                for (int i = 0; i < darts; i++) {
                    told.add(face(k, i).got());
                }
            }
            return told;
        }

        void tellsStill(List<Integer> before) {
            List<Integer> now = told();
            expect(now.equals(before), "behind call " + calls + " is told " + now + ", before it was " + before);
        }
    }

    // ------------------------------------------------------------------ Promise 1: A new object

    /** "No crossings put in" */
    private static void promise1_noCrossingsPutIn() {
        new Run().many(10).is(0);
    }

    /** "no diagram (which is one without crossings and circles)" */
    private static void promise1_noDiagram() {
        Run x = new Run();
        x.isWithoutCrossings(0);
        for (int what = 0; what < 8; what++) {
            x.look(0, what).is(-1000);
            x.edge(1, what).is(-1);
            x.component(0, what).is(-1000);
        }
        x.component(0, 10).is(-1000);
    }

    /** "no diagram": there is nothing that could be changed. */
    private static void promise1_noDiagramIsNotChanged() {
        Run x = new Run();
        x.mirror();
        x.number();
        x.reverse(0).is(false);
        x.change(0).is(false);
        x.smooth(0).is(false);
        x.isWithoutCrossings(0);
        x.many(10).is(0);
    }

    /** "A new object", whatever others were used for. */
    private static void promise1_behindAnotherObject() {
        Run other = Run.of(20, kinks(20));
        other.put(KINK);
        Run x = new Run();
        x.isWithoutCrossings(0);
        x.many(10).is(0);
        other.many(0).is(20);
        other.many(10).is(1);
    }

    // ------------------------------------------------------------------ Promise 2: crossing

    /** "One more crossing is put in: how many there are." */
    private static void promise2_howManyThereAre() {
        Run x = new Run();
        for (int n = 1; n <= 20; n++) {
            x.crossing(n % 2 == 0 ? 1 : -1, 5, 5, 5, 5).is(n);
            x.many(10).is(n);
        }
    }

    /** "-1, doing nothing, when the sign is none" */
    private static void promise2_signIsNone() {
        for (int sign : new int[] {0, 2, -2, 3, MIN, MIN + 1, MAX, 65537, -65537}) {
            Run x = new Run();
            x.crossing(sign, 1, 1, 2, 2).is(-1);
            x.many(10).is(0);
        }
    }

    /** "-1, doing nothing, when .. a label is not 1 .. 9999": too small. */
    private static void promise2_labelTooSmall() {
        for (int label : new int[] {0, -1, -9999, MIN}) {
            dueLabelRefused(label);
        }
    }

    /** "-1, doing nothing, when .. a label is not 1 .. 9999": too large. */
    private static void promise2_labelTooLarge() {
        for (int label : new int[] {10000, 65537, MAX}) {
            dueLabelRefused(label);
        }
    }

    private static void dueLabelRefused(int label) {
        Run x = new Run();
        x.crossing(1, label, 1, 2, 2).is(-1);
        x.crossing(1, 1, label, 2, 2).is(-1);
        x.crossing(1, 1, 1, label, 2).is(-1);
        x.crossing(1, 1, 1, 2, label).is(-1);
        x.crossing(-1, label, label, label, label).is(-1);
        x.many(10).is(0);
    }

    /** "A LABEL is a number 1 .. 9999": both ends are labels, at every place. */
    private static void promise2_leastAndGreatestLabel() {
        int n = 0;
        Run x = new Run();
        for (int label : new int[] {1, 9999}) {
            x.crossing(1, label, 5, 5, 5).is(++n);
            x.crossing(1, 5, label, 5, 5).is(++n);
            x.crossing(1, 5, 5, label, 5).is(++n);
            x.crossing(1, 5, 5, 5, label).is(++n);
        }
    }

    /** "-1 .. when .. there are 20" */
    private static void promise2_full() {
        Run x = new Run();
        x.put(kinks(20));
        x.many(10).is(20);
        x.crossing(1, 41, 41, 42, 42).is(-1);
        x.crossing(-1, 1, 1, 1, 1).is(-1);
        x.crossing(0, 1, 1, 1, 1).is(-1);
        x.many(10).is(20);
    }

    /** "-1, doing nothing, when .. there are 20": the twenty stay as they were. */
    private static void promise2_refusedWhenFullDoesNothing() {
        Run x = new Run();
        x.put(kinks(20));
        x.crossing(-1, 91, 92, 93, 94).is(-1);
        x.crossing(-1, 95, 96, 97, 98).is(-1);
        x.check(0).is(0);
        x.crossingsAre(kinks(20));
    }

    /** "-1, doing nothing": what was put in before and behind fits together as if without it. */
    private static void promise2_refusedDoesNothing() {
        Run x = new Run();
        x.crossing(2, 9, 9, 9, 9).is(-1);
        x.put(HOPF[0]);
        x.crossing(0, 8, 8, 8, 8).is(-1);
        x.crossing(1, 7, 7, 7, 10000).is(-1);
        x.crossing(-1, 0, 7, 7, 7).is(-1);
        x.crossing(1, 4, 1, 3, 2).is(2);
        x.crossing(1, 1, 2, -3, 4).is(-1);
        x.check(0).is(0);
        x.crossingsAre(HOPF);
    }

    /** "there are 20" counts what is put in now, not what a check() took. */
    private static void promise2_roomAgainBehindACheck() {
        Run x = new Run();
        for (int[][] row : new int[][][] {kinks(20), both(kinks(19), ONCE), kinks(20)}) {
            x.put(row);
            x.crossing(1, 1, 1, 2, 2).is(-1);
            x.check(0);
            x.crossing(1, 1, 1, 2, 2).is(1);
            x.check(0).is(0);
        }
    }

    /** "One more crossing is put in": the diagram is another thing. */
    private static void promise2_theDiagramStays() {
        Run x = Run.of(3, HOPF);
        List<Integer> before = x.told();
        x.put(kinks(20));
        x.crossing(1, 1, 1, 2, 2).is(-1);
        x.tellsStill(before);
    }

    // ------------------------------------------------------------------ Promise 3: check

    /** "-1 .. when circles is not 0 .. 20": too small. */
    private static void promise3_circlesTooFew() {
        for (int circles : new int[] {-1, -20, MIN}) {
            dueCheckRefused(circles);
        }
    }

    /** "-1 .. when circles is not 0 .. 20": too large. */
    private static void promise3_circlesTooMany() {
        for (int circles : new int[] {21, 256, 65536, MAX}) {
            dueCheckRefused(circles);
        }
    }

    private static void dueCheckRefused(int circles) {
        for (int[][] row : BY_FAULT) {
            Run x = new Run();
            x.put(row);
            x.check(circles).is(-1);
        }
        new Run().check(circles).is(-1);
    }

    /** "0 .. 20": both ends are numbers of circles. */
    private static void promise3_leastAndMostCircles() {
        Run x = new Run();
        for (int circles : new int[] {20, 0, 1, 19}) {
            x.put(KINK);
            x.check(circles).is(0);
            x.many(4).is(circles);
            x.many(2).is(1 + circles);
        }
    }

    /** "-1, doing nothing": the diagram stays, and what was wrong. */
    private static void promise3_refusedLeavesTheDiagram() {
        Run x = Run.of(3, HOPF);
        x.put(ONCE);
        x.check(0).is(1);
        List<Integer> before = x.told();
        x.put(KINK);
        x.check(21).is(-1);
        x.check(-1).is(-1);
        x.tellsStill(before);
        x.which().is(7);
    }

    /** "-1, doing nothing": what was put in stays as well, to be looked at by the next check(). */
    private static void promise3_refusedLeavesWhatWasPutIn() {
        Run x = Run.of(3, HOPF);
        x.put(TREFOIL[0], TREFOIL[1]);
        x.check(21).is(-1);
        x.check(-1).is(-1);
        x.many(10).is(2);
        x.crossing(1, 5, 3, 6, 2).is(3);
        x.check(MAX).is(-1);
        x.check(0).is(0);
        x.crossingsAre(TREFOIL);
        x.many(4).is(0);
    }

    /** "0 when they are a diagram": no crossings are one; the diagram there was is no more. */
    private static void promise3_nothingPutIn() {
        Run x = Run.of(3, TREFOIL);
        x.check(0).is(0);
        x.isWithoutCrossings(0);
        x.check(20).is(0);
        x.isWithoutCrossings(20);
        x.component(19, 3).is(19);
    }

    /** "(1) every label there is stands at two places": not at one. */
    private static void promise3_labelAtOnePlace() {
        dueFault(1, c(1, 1, 1, 2, 3));
        dueFault(1, c(1, 1, 1, 2, 2), c(1, 3, 4, 5, 6));
    }

    /** "(1) every label there is stands at two places": not at three, nor at four. */
    private static void promise3_labelAtMorePlaces() {
        dueFault(1, c(1, 1, 1, 1, 2));
        dueFault(1, c(1, 1, 1, 1, 1));
        dueFault(1, c(1, 1, 1, 2, 2), c(1, 1, 1, 2, 2));
        dueFault(1, c(1, 1, 1, 2, 2), c(1, 1, 1, 3, 3));
    }

    /** "(2) one of them is where a strand goes in, the other one where one goes out" */
    private static void promise3_bothPlacesOfOneKind() {
        dueFault(2, c(1, 3, 2, 2, 3));
        dueFault(2, c(-1, 3, 3, 2, 2));
        dueFault(2, c(1, 1, 2, 3, 4), c(-1, 1, 2, 3, 4));
        dueFault(2, c(1, 1, 1, 2, 2), c(-1, 3, 3, 4, 4));
    }

    /** "(3) every PIECE .. lies on a sphere: it has two FACES more than crossings" */
    private static void promise3_onNoSphere() {
        dueFault(3, c(1, 1, 2, 1, 2));
        dueFault(3, c(-1, 1, 2, 1, 2));
        dueFault(3, c(1, 1, 2, 3, 4), c(1, 3, 4, 1, 2));
    }

    /** "every PIECE": a sphere and a torus have two faces more than crossings, taken together. */
    private static void promise3_eachPieceByItself() {
        dueFault(3, c(1, 7, 7, 8, 8), c(1, 1, 2, 1, 2));
        dueFault(3, c(1, 1, 2, 1, 2), c(1, 7, 7, 8, 8));
        Run.of(0, kinks(2)).many(6).is(6);
    }

    private static void dueFault(int fault, int[]... row) {
        Run x = new Run();
        x.put(row);
        x.check(0).is(fault);
        x.put(row);
        x.check(20).is(fault);
    }

    /** "otherwise the first of (1), (2), (3) that is not so", in whatever order they were put in. */
    private static void promise3_theFirstFault() {
        int[] once = c(1, 20, 20, 21, 22);
        int[] alike = c(1, 9, 8, 8, 9);
        int[] torus = c(1, 1, 2, 1, 2);
        dueFault(1, torus, alike, once);
        dueFault(1, once, alike, torus);
        dueFault(1, torus, once);
        dueFault(1, alike, once);
        dueFault(2, torus, alike);
        dueFault(2, alike, torus);
        dueFault(3, torus);
    }

    /** "0 when they are a diagram, which is the one there is from now on": nothing of the old one. */
    private static void promise3_theNewDiagramInPlaceOfTheOld() {
        Run x = Run.of(20, braid(20));
        x.put(KINK);
        x.check(0).is(0);
        x.manyAre(1, 2, 1, 1, 0, 1, 3, 1, 2, 1, 0);
        x.look(1, 0).is(-1000);
        x.edge(3, 0).is(-1);
        x.component(1, 0).is(-1000);
        x.face(3, -1).is(0);
        x.put(braid(20));
        x.check(1).is(0);
        x.manyAre(20, 40, 3, 2, 1, 20, 22, 21, 3, 1, 0);
    }

    /** "(the diagram stays)" */
    private static void promise3_theDiagramStaysAtAFault() {
        for (int fault = 1; fault <= 3; fault++) {
            Run x = Run.of(3, HOPF);
            List<Integer> before = x.told();
            x.put(BY_FAULT[fault]);
            x.check(5).is(fault);
            x.tellsStill(before);
            x.component(0, 11).is(1);
            x.edge(4, 4).is(3);
        }
    }

    /** "(the diagram stays)": no diagram stays none, and one without crossings keeps its circles. */
    private static void promise3_noDiagramStaysAtAFault() {
        for (int fault = 1; fault <= 3; fault++) {
            Run x = new Run();
            x.put(BY_FAULT[fault]);
            x.check(5).is(fault);
            x.isWithoutCrossings(0);
            x.check(4).is(0);
            x.put(BY_FAULT[fault]);
            x.check(5).is(fault);
            x.isWithoutCrossings(4);
        }
    }

    /** "Whatever was put in is gone", whether it was a diagram or not. */
    private static void promise3_putInIsGone() {
        for (int fault = 0; fault <= 3; fault++) {
            Run x = new Run();
            x.put(BY_FAULT[fault]);
            x.check(0).is(fault);
            x.many(10).is(0);
            x.crossing(1, 1, 1, 2, 2).is(1);
            x.check(0).is(0);
            x.crossingsAre(KINK);
        }
    }

    /** As many crossings as there may be, with as many circles; and as many labels. */
    private static void promise3_full() {
        Run.of(20, braid(20)).manyAre(20, 40, 22, 21, 20, 20, 22, 40, 22, 1, 0);
        Run.of(20, curls(20)).manyAre(20, 40, 21, 21, 20, 20, 22, 40, 41, 1, 0);
        int[][] apart = new int[20][];
        for (int k = 0; k < 20; k++) {
            apart[k] = c(1, 4 * k + 1, 4 * k + 2, 4 * k + 3, 4 * k + 4);
        }
        dueFault(1, apart);
    }

    /** "An object is used for at most 512 calls": the last one is answered as the first. */
    private static void promise3_theLastOf512Calls() {
        Run x = new Run();
        for (int n = 0; n < 255; n++) {
            x.crossing(1, 1, 1, 2, 2).is(1);
            x.check(n % 21).is(0);
        }
        x.crossing(1, 1, 2, 1, 2).is(1);
        x.check(20).is(3);
    }

    // ------------------------------------------------------------------ Promise 4: which

    /** "-1 when nothing was (or before any)": before any. */
    private static void promise4_beforeAny() {
        Run x = new Run();
        x.which().is(-1);
        x.put(ONCE);
        x.which().is(-1);
    }

    /** "by the latest check() that was not -1": refused ones are none, first or later. */
    private static void promise4_refusedChecks() {
        Run x = new Run();
        x.put(ONCE);
        x.check(21).is(-1);
        x.which().is(-1);
        x.check(0).is(1);
        x.which().is(7);
        x.put(KINK);
        x.check(-1).is(-1);
        x.check(21).is(-1);
        x.which().is(7);
    }

    /** "by the latest check()": one fault behind another. */
    private static void promise4_theLatest() {
        Run x = new Run();
        int[] due = {-1, 7, 2, 0};
        for (int fault : new int[] {1, 2, 3, 2, 1, 3, 1}) {
            x.put(BY_FAULT[fault]);
            x.check(0).is(fault);
            x.which().is(due[fault]);
        }
    }

    /** "-1 when nothing was": behind each fault. */
    private static void promise4_nothingWrong() {
        for (int fault = 0; fault <= 3; fault++) {
            Run x = new Run();
            x.put(BY_FAULT[fault]);
            x.check(0).is(fault);
            x.put(KINK);
            x.check(0).is(0);
            x.which().is(-1);
        }
        Run x = new Run();
        x.put(TORUS);
        x.check(0).is(3);
        x.check(0).is(0);
        x.which().is(-1);
    }

    /** "the least label that is not at two places": at one, three or four, and none at two. */
    private static void promise4_leastLabelNotAtTwoPlaces() {
        dueWhich(3, c(1, 9, 3, 9, 7));
        dueWhich(5, c(1, 1, 1, 5, 6));
        dueWhich(1, c(1, 1, 1, 2, 2), c(1, 1, 3, 3, 4));
        dueWhich(1, c(1, 4, 4, 5, 5), c(1, 4, 3, 3, 1));
        dueWhich(2, c(1, 3, 3, 4, 4), c(1, 2, 2, 2, 2));
        dueWhich(9999, c(1, 9999, 9999, 9999, 9999));
        dueWhich(9999, c(1, 1, 1, 9998, 9998), c(1, 9999, 9999, 9999, 9999));
        dueWhich(1, c(1, 9999, 9998, 2, 1));
    }

    /** "or both of whose places are ends of the same kind": the least one. */
    private static void promise4_leastLabelOfOneKind() {
        dueWhich(2, c(1, 3, 2, 2, 3));
        dueWhich(2, c(1, 2, 3, 3, 2));
        dueWhich(5, c(-1, 5, 5, 6, 6));
        dueWhich(5, c(-1, 6, 6, 5, 5));
        dueWhich(9998, c(1, 1, 1, 2, 2), c(1, 9999, 9998, 9998, 9999));
        dueWhich(3, c(1, 8, 7, 7, 8), c(1, 4, 3, 3, 4));
    }

    /** "or the least crossing of a piece that is on no sphere" */
    private static void promise4_leastCrossingOnNoSphere() {
        dueWhich(0, c(1, 50, 51, 50, 51), c(1, 1, 2, 1, 2));
        dueWhich(1, c(1, 7, 7, 8, 8), c(1, 50, 51, 50, 51), c(1, 1, 2, 1, 2));
        dueWhich(1, c(1, 7, 7, 8, 8), c(1, 20, 21, 22, 23), c(-1, 5, 6, 6, 5), c(1, 22, 23, 20, 21));
        dueWhich(19, both(kinks(19), new int[][] {c(1, 98, 99, 98, 99)}));
    }

    private static void dueWhich(int which, int[]... row) {
        Run x = new Run();
        x.put(row);
        x.check(0);
        x.which().is(which);
    }

    /** "by the latest check()": no other call tells what is wrong. */
    private static void promise4_otherCalls() {
        Run x = Run.of(1, TREFOIL);
        x.put(ONCE);
        x.check(0).is(1);
        x.put(KINK);
        x.mirror();
        x.number();
        x.reverse(0).is(true);
        x.change(0).is(true);
        x.smooth(0).is(true);
        x.smooth(9).is(false);
        x.which().is(7);
        x.which().is(7);
    }

    // ------------------------------------------------------------------ Promise 5: many

    /** "-1000 for others": too small. */
    private static void promise5_whatTooSmall() {
        for (int what : new int[] {-1, -2, -1000, MIN}) {
            new Run().many(what).is(-1000);
            Run.of(2, TREFOIL).many(what).is(-1000);
        }
    }

    /** "-1000 for others": too large. */
    private static void promise5_whatTooLarge() {
        for (int what : new int[] {11, 12, 20, 256, 65536, MAX}) {
            new Run().many(what).is(-1000);
            Run.of(2, TREFOIL).many(what).is(-1000);
        }
    }

    /** "whether it is alternating (1, or 0; one without crossings is)" */
    private static void promise5_withoutCrossingsAlternating() {
        new Run().many(9).is(1);
        Run.of(0).many(9).is(1);
        Run.of(20).many(9).is(1);
        Run x = Run.of(0, LAID_OVER);
        x.many(9).is(0);
        x.check(0).is(0);
        x.many(9).is(1);
    }

    /** "each edge comes from an upper place and goes to a lower one, or the other way round" */
    private static void promise5_oneStrandNotAlternating() {
        Run.of(0, both(kinks(2), new int[][] {c(1, 9, 9, 8, 8)})).many(9).is(1);
        Run x = Run.of(0, TREFOIL);
        x.many(9).is(1);
        x.change(2).is(true);
        x.many(9).is(0);
        x = Run.of(0, both(new int[][] {c(1, 8, 8, 9, 9)}, LAID_OVER));
        x.many(9).is(0);
    }

    /** "pieces (each circle is one)"; a circle is a component, an arc and one of Seifert's as well. */
    private static void promise5_circlesAlone() {
        for (int circles : new int[] {0, 1, 20}) {
            Run.of(circles).manyAre(0, 0, circles, circles, circles, 0, 0, circles, circles, 1, 0);
        }
    }

    /** "faces of all pieces that have crossings": circles have none. */
    private static void promise5_facesOfPiecesWithCrossings() {
        Run.of(20, KINK).many(6).is(3);
        Run.of(0, KINK).many(6).is(3);
        Run.of(20).many(6).is(0);
    }

    /** As many pieces, components, faces and circles as there may be. */
    private static void promise5_full() {
        Run.of(20, kinks(20)).manyAre(20, 40, 40, 40, 20, 20, 60, 40, 60, 1, 0);
    }

    /** "the sum of signs": below 0, and 0 with crossings. */
    private static void promise5_sumOfSigns() {
        int[][] row = new int[20][];
        for (int k = 0; k < 20; k++) {
            row[k] = c(-1, 2 * k + 1, 2 * k + 2, 2 * k + 2, 2 * k + 1);
        }
        Run.of(0, row).many(5).is(-20);
        Run.of(0, LAID_OVER).many(5).is(0);
    }

    /** "crossings that were put in": not those of the diagram, up to 20. */
    private static void promise5_putIn() {
        Run x = Run.of(0, TREFOIL);
        x.many(10).is(0);
        x.put(kinks(20));
        x.many(10).is(20);
        x.many(0).is(3);
        x.put(KINK);
        x.many(10).is(20);
    }

    /** "An ARC is a row of edges .. as long as it goes": a whole round is one. */
    private static void promise5_anArcThatIsARound() {
        Run.of(0, LAID_OVER).many(7).is(3);
        Run.of(0, KINK).many(7).is(1);
    }

    // ------------------------------------------------------------------ Promise 6: look

    /** "-1000 when there is none": too small. */
    private static void promise6_crossingTooSmall() {
        Run x = Run.of(0, HOPF);
        for (int what = 0; what < 8; what++) {
            x.look(-1, what).is(-1000);
            x.look(MIN, what).is(-1000);
            x.look(-WRAPS_TO_0, what).is(-1000);
        }
    }

    /** "-1000 when there is none": too large; circles have no crossings. */
    private static void promise6_crossingTooLarge() {
        Run x = Run.of(5, HOPF);
        for (int what = 0; what < 8; what++) {
            x.look(2, what).is(-1000);
            x.look(20, what).is(-1000);
            x.look(MAX, what).is(-1000);
            x.look(WRAPS_TO_0, what).is(-1000);
        }
        x = Run.of(0, kinks(20));
        for (int what = 0; what < 8; what++) {
            x.look(20, what).is(-1000);
        }
    }

    /** "-1000 when there is none": no diagram. */
    private static void promise6_noDiagram() {
        for (int what = -1; what < 9; what++) {
            new Run().look(0, what).is(-1000);
            Run.of(20).look(0, what).is(-1000);
        }
    }

    /** "-1000 when .. no such what" */
    private static void promise6_noSuchWhat() {
        Run x = Run.of(3, HOPF);
        for (int what : new int[] {-1, 8, 9, 10, -1000, MIN, MAX, WRAPS_TO_0}) {
            x.look(0, what).is(-1000);
            x.look(1, what).is(-1000);
        }
    }

    /** "Of crossing k": of the diagram, not of what is put in. */
    private static void promise6_putInIsNotLookedAt() {
        Run x = new Run();
        x.put(TREFOIL);
        x.look(0, 0).is(-1000);
        x = Run.of(0, KINK);
        x.put(TREFOIL);
        x.crossingIs(0, KINK[0]);
        x.look(1, 0).is(-1000);
    }

    /** The first and the last crossing of as many as there may be. */
    private static void promise6_full() {
        Run x = Run.of(20, kinks(20));
        x.crossingsAre(kinks(20));
        for (int k : new int[] {0, 19}) {
            x.look(k, 5).is(k);
            x.look(k, 6).is(k);
            x.look(k, 7).is(k);
        }
    }

    /** "-1000 when there is none": the last one is not there when one of them is smoothed. */
    private static void promise6_behindSmooth() {
        Run x = Run.of(0, TREFOIL);
        x.smooth(0).is(true);
        x.look(1, 4).is(1);
        x.look(2, 4).is(-1000);
    }

    /** "Pieces are numbered by their least crossings", components "by their least labels". */
    private static void promise6_numbersOfPiecesAndComponents() {
        Run x = Run.of(2, c(1, 80, 80, 90, 90), LAID_OVER[0], LAID_OVER[1], c(-1, 60, 70, 70, 60));
        int[][] pieceLowerUpper = {{0, 3, 3}, {1, 1, 0}, {1, 1, 0}, {2, 2, 2}};
        for (int k = 0; k < 4; k++) {
            for (int i = 0; i < 3; i++) {
                x.look(k, 5 + i).is(pieceLowerUpper[k][i]);
            }
        }
    }

    // ------------------------------------------------------------------ Promise 7: edge

    /** "-1 when there is none": too small. */
    private static void promise7_labelTooSmall() {
        Run x = Run.of(3, HOPF);
        for (int what = 0; what < 9; what++) {
            x.edge(0, what).is(-1);
            x.edge(-1, what).is(-1);
            x.edge(MIN, what).is(-1);
        }
    }

    /** "-1 when there is none": too large, or between labels. */
    private static void promise7_labelTooLarge() {
        Run x = Run.of(3, c(1, 1, 1, 9999, 9999));
        for (int what = 0; what < 9; what++) {
            x.edge(2, what).is(-1);
            x.edge(9998, what).is(-1);
            x.edge(10000, what).is(-1);
            x.edge(65537, what).is(-1);
            x.edge(MAX, what).is(-1);
        }
    }

    /** "-1 when there is none": no diagram. */
    private static void promise7_noDiagram() {
        for (int what = -1; what < 10; what++) {
            new Run().edge(1, what).is(-1);
            Run.of(20).edge(0, what).is(-1);
            Run.of(20).edge(1, what).is(-1);
        }
    }

    /** "-1 when .. no such what" */
    private static void promise7_noSuchWhat() {
        Run x = Run.of(0, TREFOIL);
        for (int what : new int[] {-1, 9, 10, 11, -1000, MIN, MAX, WRAPS_TO_0}) {
            x.edge(1, what).is(-1);
            x.edge(6, what).is(-1);
        }
    }

    /** "Of the edge with a label": of the diagram, not of what is put in, also if that is no diagram. */
    private static void promise7_putInIsNotLookedAt() {
        Run x = new Run();
        x.put(KINK);
        x.edge(1, 0).is(-1);
        x = Run.of(0, KINK);
        x.put(ONCE);
        x.edge(7, 0).is(-1);
        x.check(0).is(1);
        x.edge(7, 0).is(-1);
        x.edge(2, 4).is(1);
    }

    /** "A LABEL is a number 1 .. 9999": the least and the greatest; both ends at one crossing. */
    private static void promise7_leastAndGreatestLabel() {
        Run x = Run.of(0, c(1, 1, 1, 9999, 9999));
        x.edgeIs(1, 0, 1, 0, 0, 9999, 0, 0, 1, 1);
        x.edgeIs(9999, 0, 2, 0, 3, 1, 0, 2, 0, 1);
    }

    /** "A COMPONENT is a round of edges": behind the last comes the first. */
    private static void promise7_nextClosesTheRound() {
        Run x = Run.of(0, curls(20));
        for (int label = 1; label < 40; label++) {
            x.edge(label, 4).is(label + 1);
        }
        x.edge(40, 4).is(1);
        x = Run.of(0, HOPF);
        x.edge(2, 4).is(1);
        x.edge(4, 4).is(3);
    }

    /** "the least label of its arc": the arc goes on behind the greatest label. */
    private static void promise7_arcOverTheEnd() {
        Run x = Run.of(0, TREFOIL);
        x.edge(6, 8).is(1);
        x.edge(1, 8).is(1);
        x.edge(2, 8).is(2);
    }

    /** "as long as it goes": a whole round over upper places, and an edge between two lower ones. */
    private static void promise7_longestAndShortestArc() {
        Run x = Run.of(0, LAID_OVER);
        x.edge(1, 8).is(1);
        x.edge(2, 8).is(1);
        x.edge(3, 8).is(3);
        x.edge(4, 8).is(4);
        x = Run.of(0, c(-1, 1, 3, 2, 4), c(1, 2, 3, 1, 4));
        x.edge(4, 8).is(3);
    }

    /** The last crossing and the last edges of as many as there may be. */
    private static void promise7_full() {
        Run x = Run.of(0, braid(20));
        x.edgeIs(39, 18, 2, 19, 3, 2, 1);
        x.edgeIs(40, 18, 1, 19, 0, 1, 0);
        x.edgeIs(1, 19, 2, 0, 3, 4, 0);
        x = Run.of(0, kinks(20));
        x.edgeIs(40, 19, 2, 19, 3, 39, 19, 59, 57, 39);
    }

    /** "-1 when there is none": labels that went with smooth() and number(). */
    private static void promise7_labelsThatWent() {
        Run x = Run.of(0, TREFOIL);
        x.smooth(0).is(true);
        x.edge(4, 0).is(-1);
        x.edge(5, 0).is(-1);
        x.number();
        x.edge(6, 0).is(-1);
        x.edge(4, 4).is(3);
    }

    // ------------------------------------------------------------------ Promise 8: component

    /** "-1000 when there is none": too small. */
    private static void promise8_componentTooSmall() {
        Run x = Run.of(3, HOPF);
        for (int k : new int[] {-1, -2, MIN}) {
            x.componentIs(k, -1000, -1000, -1000, -1000);
            x.component(k, 10).is(-1000);
            x.component(k, 10 + k).is(-1000);
        }
    }

    /** "-1000 when there is none": too large. */
    private static void promise8_componentTooLarge() {
        Run x = Run.of(3, HOPF);
        for (int k : new int[] {5, 6, 60, MAX, WRAPS_TO_0}) {
            x.componentIs(k, -1000, -1000, -1000, -1000);
            x.component(k, 10).is(-1000);
            x.component(k, 10 + k).is(-1000);
        }
    }

    /** "-1000 when there is none": no diagram. */
    private static void promise8_noDiagram() {
        Run x = new Run();
        for (int what = -1; what < 12; what++) {
            x.component(0, what).is(-1000);
        }
    }

    /** "-1000 when .. no such what", of a round of edges and of a circle. */
    private static void promise8_noSuchWhat() {
        Run x = Run.of(3, HOPF);
        for (int k : new int[] {0, 1, 2, 4}) {
            for (int what : new int[] {-1, 4, 5, 6, 7, 8, 9, -1000, MIN, MIN + 9, MIN + 10, MIN + 11}) {
                x.component(k, what).is(-1000);
            }
        }
    }

    /** "10 + j .. with another component j": when there is no j there is no such what. */
    private static void promise8_noOtherComponent() {
        Run x = Run.of(3, HOPF);
        for (int k : new int[] {0, 1, 2, 4}) {
            x.component(k, 14).is(0);
            for (int what : new int[] {15, 16, 70, 1000, MAX, MAX - 1}) {
                x.component(k, what).is(-1000);
            }
        }
    }

    /** "its least label (0: a circle)"; a circle has no edges and no crossings. */
    private static void promise8_circle() {
        Run x = Run.of(20);
        x.componentIs(0, 0, 0, 0, 0);
        x.componentIs(19, 0, 0, 0, 19);
        x.component(20, 0).is(-1000);
    }

    /** "Those with edges are numbered from 0 on by their least labels, circles behind them." */
    private static void promise8_circlesBehindRounds() {
        Run x = Run.of(2, c(1, 80, 80, 90, 90), LAID_OVER[0], LAID_OVER[1], c(-1, 60, 70, 70, 60));
        int[][] want = {{1, 2, 0, 1}, {3, 2, 0, 1}, {60, 2, -1, 2}, {80, 2, 1, 0}, {0, 0, 0, 3}, {0, 0, 0, 4}};
        for (int k = 0; k < want.length; k++) {
            x.componentIs(k, want[k]);
        }
        x.component(6, 0).is(-1000);
    }

    /** "(0 with itself)", whatever its crossings with itself are. */
    private static void promise8_linkingWithItself() {
        Run x = Run.of(2, TREFOIL);
        x.component(0, 2).is(3);
        x.component(0, 10).is(0);
        x.component(1, 11).is(0);
        x.component(2, 12).is(0);
        x = Run.of(0, HOPF);
        x.component(1, 11).is(0);
    }

    /** "half the sum of signs of crossings of both": none with a circle or in another piece. */
    private static void promise8_linkingWithoutCrossings() {
        Run x = Run.of(2, both(HOPF, new int[][] {c(1, 5, 5, 6, 6)}));
        x.component(0, 12).is(0);
        x.component(2, 10).is(0);
        x.component(0, 13).is(0);
        x.component(3, 10).is(0);
        x.component(4, 13).is(0);
        x.component(0, 11).is(1);
    }

    /** "half the sum of signs": all of them alike, above and below 0, and one against another. */
    private static void promise8_mostAndLeastLinking() {
        Run x = Run.of(0, braid(20));
        x.component(0, 11).is(10);
        x.component(1, 10).is(10);
        x.mirror();
        x.component(0, 11).is(-10);
        x.component(1, 10).is(-10);
        Run.of(0, LAID_OVER).component(0, 11).is(0);
    }

    /** "the sum of signs of its crossings with itself": not of those with others. */
    private static void promise8_ownCrossings() {
        Run x = Run.of(0, HOPF);
        x.component(0, 2).is(0);
        x.component(1, 2).is(0);
        x = Run.of(0, curls(20));
        x.componentIs(0, 1, 40, 20, 0);
        x.mirror();
        x.component(0, 2).is(-20);
    }

    // ------------------------------------------------------------------ Promise 9: face

    /** "0 when there is none": no such face. */
    private static void promise9_noFace() {
        Run x = Run.of(3, HOPF);
        for (int k : new int[] {-1, -2, 4, 5, 80, MIN, MAX, WRAPS_TO_0}) {
            x.face(k, -1).is(0);
            x.face(k, 0).is(0);
            x.face(k, k).is(0);
        }
        x.face(3, -1).is(2);
    }

    /** "0 when there is none": no diagram; circles have no faces. */
    private static void promise9_noDiagram() {
        for (int i = -2; i < 2; i++) {
            new Run().face(0, i).is(0);
            Run.of(20).face(0, i).is(0);
        }
    }

    /** "0 when there is none": no such dart of it. */
    private static void promise9_noDart() {
        Run x = Run.of(0, HOPF);
        for (int k = 0; k < 4; k++) {
            for (int i : new int[] {-2, -3, 2, 3, 80, MIN, MAX, WRAPS_TO_0}) {
                x.face(k, i).is(0);
            }
        }
    }

    /** "how many darts it has when i is -1": one at least. */
    private static void promise9_oneDart() {
        Run x = Run.of(0, KINK);
        x.faceIs(1, -1);
        x.face(1, 1).is(0);
        x.faceIs(2, 2);
        x.face(2, 1).is(0);
    }

    /** "from 0 on, beginning with its least dart"; "along before against". */
    private static void promise9_theLeastDartFirst() {
        Run x = Run.of(0, HOPF);
        x.faceIs(0, 1, -3);
        x.faceIs(1, -1, -4);
        x.faceIs(2, 2, 3);
        x.faceIs(3, -2, 4);
        x = Run.of(0, c(1, 9, 9, 4, 4));
        x.faceIs(0, 4);
        x.faceIs(1, -4, 9);
        x.faceIs(2, -9);
    }

    /** "q - 1 (modulo 4)": from the place 0 a face goes on by the place 3. */
    private static void promise9_fromPlace0ToPlace3() {
        Run x = Run.of(0, KINK);
        x.faceIs(0, 1, -2);
        x.mirror();
        x.faceIs(0, 1, -2);
    }

    /** The greatest face of as many crossings as there may be; the last face and none behind it. */
    private static void promise9_full() {
        Run x = Run.of(0, curls(20));
        int[] along = new int[40];
        int[] against = new int[20];
        for (int i = 0; i < 20; i++) {
            along[2 * i] = 2 * i + 1;
            along[2 * i + 1] = -(2 * i + 2);
            against[i] = i == 0 ? -1 : -(41 - 2 * i);
        }
        x.faceIs(0, along);
        x.face(0, 40).is(0);
        x.faceIs(1, against);
        x.face(1, 20).is(0);
        x.faceIs(21, 40);
        x.face(22, -1).is(0);
        x = Run.of(0, kinks(20));
        x.faceIs(59, 40);
        x.face(60, -1).is(0);
    }

    // ------------------------------------------------------------------ Promise 10: mirror

    /** "Each crossing is changed": there may be none, and circles stay. */
    private static void promise10_noCrossings() {
        for (int circles : new int[] {0, 20}) {
            Run x = Run.of(circles);
            x.mirror();
            x.isWithoutCrossings(circles);
        }
    }

    /** "Each crossing is changed": the first and the last of as many as there may be. */
    private static void promise10_full() {
        Run x = Run.of(20, kinks(20));
        x.mirror();
        x.many(5).is(-20);
        x.many(4).is(20);
        x.crossingIs(0, -1, 2, 1, 1, 2);
        x.crossingIs(19, -1, 40, 39, 39, 40);
    }

    /** "as change() does": of both signs. */
    private static void promise10_bothSigns() {
        Run x = Run.of(1, LAID_OVER);
        x.mirror();
        x.crossingsAre(c(1, 1, 4, 2, 3), c(-1, 2, 4, 1, 3));
        x.edge(1, 8).is(1);
        x.edge(2, 8).is(2);
        x.edge(4, 8).is(3);
    }

    /** "the diagram of the mirror image": twice is the diagram itself. */
    private static void promise10_twice() {
        Run x = Run.of(2, both(LAID_OVER, new int[][] {c(1, 8, 8, 9, 9)}));
        List<Integer> before = x.told();
        x.mirror();
        x.mirror();
        x.tellsStill(before);
    }

    /** "Each crossing" is one of the diagram: what is put in stays. */
    private static void promise10_putInStays() {
        Run x = Run.of(0, HOPF);
        x.put(KINK);
        x.mirror();
        x.many(10).is(1);
        x.check(0).is(0);
        x.crossingsAre(KINK);
    }

    // ------------------------------------------------------------------ Promise 11: reverse

    /** "false when there is none": too small; nothing is done. */
    private static void promise11_componentTooSmall() {
        dueNothingReversed(-1, -2, MIN);
    }

    /** "false when there is none": too large; nothing is done. */
    private static void promise11_componentTooLarge() {
        dueNothingReversed(5, 6, 60, MAX, WRAPS_TO_0);
    }

    private static void dueNothingReversed(int... components) {
        Run x = Run.of(3, HOPF);
        List<Integer> before = x.told();
        for (int k : components) {
            x.reverse(k).is(false);
        }
        x.tellsStill(before);
    }

    /** "false when there is none": no diagram. */
    private static void promise11_noDiagram() {
        Run x = new Run();
        x.reverse(0).is(false);
        x.reverse(-1).is(false);
        x.put(TREFOIL);
        x.reverse(0).is(false);
        x.isWithoutCrossings(0);
    }

    /** "Component k turns its direction: true": a circle is one, and nothing is seen of it. */
    private static void promise11_circle() {
        Run x = Run.of(3, HOPF);
        List<Integer> before = x.told();
        x.reverse(2).is(true);
        x.reverse(4).is(true);
        x.tellsStill(before);
        x = Run.of(20);
        x.reverse(0).is(true);
        x.reverse(19).is(true);
        x.reverse(20).is(false);
        x.isWithoutCrossings(20);
    }

    /** "Component k turns its direction": twice, and it goes as before. */
    private static void promise11_twice() {
        for (int k = 0; k < 3; k++) {
            Run x = Run.of(1, both(HOPF, new int[][] {c(1, 8, 8, 9, 9)}));
            List<Integer> before = x.told();
            x.reverse(k).is(true);
            x.reverse(k).is(true);
            x.tellsStill(before);
        }
    }

    /** "Labels stay with their edges": the strands go out where they came in. */
    private static void promise11_labelsStay() {
        Run x = Run.of(0, TREFOIL);
        x.reverse(0).is(true);
        x.crossingsAre(c(1, 2, 4, 1, 5), c(1, 4, 6, 3, 1), c(1, 6, 2, 5, 3));
        x.edge(1, 4).is(6);
        x.edge(2, 4).is(1);
    }

    /** "crossings of it with others change their signs": over and under them. */
    private static void promise11_signsWithOthers() {
        Run x = Run.of(0, HOPF);
        x.reverse(0).is(true);
        x.crossingsAre(c(-1, 2, 3, 1, 4), c(-1, 4, 1, 3, 2));
        x = Run.of(0, HOPF);
        x.reverse(1).is(true);
        x.crossingsAre(c(-1, 1, 4, 2, 3), c(-1, 3, 2, 4, 1));
    }

    /** "crossings of it with others": not those with itself, and not those of others alone. */
    private static void promise11_signsThatStay() {
        Run x = Run.of(0, both(HOPF, new int[][] {c(1, 8, 8, 9, 9)}));
        x.reverse(0).is(true);
        x.crossingIs(2, 1, 8, 8, 9, 9);
        x.reverse(2).is(true);
        x.crossingIs(2, 1, 9, 9, 8, 8);
        x.crossingIs(0, -1, 2, 3, 1, 4);
        x = Run.of(0, curls(20));
        x.reverse(0).is(true);
        x.many(5).is(20);
        x.edge(1, 4).is(40);
    }

    // ------------------------------------------------------------------ Promise 12: number

    /** "Edges are numbered anew": there may be none, and circles stay. */
    private static void promise12_noEdges() {
        for (int circles : new int[] {0, 20}) {
            Run x = Run.of(circles);
            x.number();
            x.isWithoutCrossings(circles);
        }
    }

    /** "1, 2, .. along each component from its least label on": and behind its end again from below. */
    private static void promise12_fromTheLeastLabelOn() {
        Run x = Run.of(3, c(1, 50, 100, 7, 8), c(1, 9999, 50, 8, 9), c(1, 100, 9999, 9, 7));
        x.number();
        x.crossingsAre(c(1, 6, 4, 1, 3), c(1, 2, 6, 3, 5), c(1, 4, 2, 5, 1));
        x.edge(6, 4).is(1);
        x.edge(7, 0).is(-1);
        x.edge(9999, 0).is(-1);
        x.many(4).is(3);
    }

    /** "component by component": the numbers go on from one to the next, in the components' order. */
    private static void promise12_componentByComponent() {
        Run x = Run.of(0, c(1, 30, 10, 20, 40), c(1, 10, 30, 40, 20));
        x.number();
        x.crossingsAre(c(1, 4, 1, 3, 2), c(1, 1, 4, 2, 3));
        x.component(0, 0).is(1);
        x.component(1, 0).is(3);
    }

    /** As many edges as there may be: 1 .. 40, and none behind. */
    private static void promise12_full() {
        int[][] row = new int[20][];
        for (int k = 0; k < 20; k++) {
            row[k] = c(1, 9999 - 2 * k, 9999 - 2 * k, 9998 - 2 * k, 9998 - 2 * k);
        }
        Run x = Run.of(20, row);
        x.number();
        x.crossingIs(0, 1, 40, 40, 39, 39);
        x.crossingIs(19, 1, 2, 2, 1, 1);
        x.edge(40, 2).is(0);
        x.edge(41, 2).is(-1);
        x.edge(9999, 2).is(-1);
        x.many(1).is(40);
    }

    /** "Crossings stay in their order", also if the numbers go the other way. */
    private static void promise12_crossingsStay() {
        Run x = Run.of(0, c(1, 30, 30, 40, 40), c(-1, 1, 2, 2, 1));
        x.number();
        x.crossingsAre(c(1, 3, 3, 4, 4), c(-1, 1, 2, 2, 1));
        x.look(0, 5).is(0);
        x.look(0, 6).is(1);
    }

    /** "1, 2, ..": what is numbered so stays. */
    private static void promise12_twice() {
        Run x = Run.of(2, both(new int[][] {c(1, 98, 98, 99, 99)}, LAID_OVER));
        x.number();
        List<Integer> before = x.told();
        x.number();
        x.tellsStill(before);
        x = Run.of(0, curls(20));
        x.number();
        x.crossingsAre(curls(20));
    }

    /** "Edges" are those of the diagram: what is put in keeps its labels. */
    private static void promise12_putInStays() {
        Run x = Run.of(0, HOPF);
        x.put(c(1, 70, 70, 80, 80));
        x.number();
        x.check(0).is(0);
        x.crossingsAre(c(1, 70, 70, 80, 80));
    }

    // ------------------------------------------------------------------ Promise 13: change

    /** "false when there is none": too small; nothing is done. */
    private static void promise13_crossingTooSmall() {
        dueNothingChanged(-1, -2, MIN, -WRAPS_TO_0);
    }

    /** "false when there is none": too large; nothing is done. */
    private static void promise13_crossingTooLarge() {
        dueNothingChanged(2, 3, 20, MAX, WRAPS_TO_0);
    }

    private static void dueNothingChanged(int... crossings) {
        Run x = Run.of(3, HOPF);
        List<Integer> before = x.told();
        for (int k : crossings) {
            x.change(k).is(false);
        }
        x.tellsStill(before);
    }

    /** "false when there is none": no diagram; what is put in is none. */
    private static void promise13_noDiagram() {
        Run x = new Run();
        x.change(0).is(false);
        x.put(KINK);
        x.change(0).is(false);
        x.check(0).is(0);
        x.crossingsAre(KINK);
        Run.of(20).change(0).is(false);
    }

    /** "its sign the other one; its places begin then where the new lower strand goes in": of both signs. */
    private static void promise13_bothSigns() {
        Run x = Run.of(0, LAID_OVER);
        x.change(0).is(true);
        x.crossingsAre(c(1, 1, 4, 2, 3), LAID_OVER[1]);
        x.change(1).is(true);
        x.crossingsAre(c(1, 1, 4, 2, 3), c(-1, 2, 4, 1, 3));
    }

    /** "At crossing k": twice, and it is as before. */
    private static void promise13_twice() {
        for (int k = 0; k < 3; k++) {
            Run x = Run.of(1, TREFOIL);
            List<Integer> before = x.told();
            x.change(k).is(true);
            x.change(k).is(true);
            x.tellsStill(before);
        }
    }

    /** "At crossing k": the first and the last of as many as there may be, and no other. */
    private static void promise13_full() {
        Run x = Run.of(0, kinks(20));
        x.change(19).is(true);
        x.change(0).is(true);
        x.change(20).is(false);
        x.many(5).is(16);
        x.crossingIs(0, -1, 2, 1, 1, 2);
        x.crossingIs(1, kinks(20)[1]);
        x.crossingIs(18, kinks(20)[18]);
        x.crossingIs(19, -1, 40, 39, 39, 40);
    }

    // ------------------------------------------------------------------ Promise 14: smooth

    /** "false when there is none": too small; nothing is done. */
    private static void promise14_crossingTooSmall() {
        dueNothingSmoothed(-1, -2, MIN, -WRAPS_TO_0);
    }

    /** "false when there is none": too large; nothing is done. */
    private static void promise14_crossingTooLarge() {
        dueNothingSmoothed(2, 3, 20, MAX, WRAPS_TO_0);
    }

    private static void dueNothingSmoothed(int... crossings) {
        Run x = Run.of(3, HOPF);
        List<Integer> before = x.told();
        for (int k : crossings) {
            x.smooth(k).is(false);
        }
        x.tellsStill(before);
    }

    /** "false when there is none": no diagram; what is put in is none. */
    private static void promise14_noDiagram() {
        Run x = new Run();
        x.smooth(0).is(false);
        x.put(KINK);
        x.smooth(0).is(false);
        x.many(10).is(1);
        x.check(0).is(0);
        x.crossingsAre(KINK);
        Run.of(20).smooth(0).is(false);
    }

    /** "two edges that become one have the lesser label": be it the one that comes in or goes out. */
    private static void promise14_theLesserLabel() {
        Run x = Run.of(0, TREFOIL);
        x.smooth(0).is(true);
        x.crossingsAre(c(1, 3, 1, 2, 6), c(1, 1, 3, 6, 2));
        x.many(4).is(0);
        x.edge(4, 0).is(-1);
        x.edge(5, 0).is(-1);
        x = Run.of(0, TREFOIL);
        x.mirror();
        x.smooth(0).is(true);
        x.crossingsAre(c(-1, 6, 3, 1, 2), c(-1, 2, 1, 3, 6));
    }

    /** "two edges that become one have the lesser label": at the first and at the last place there is. */
    private static void promise14_theLesserLabelAtEitherEnd() {
        Run x = Run.of(0, c(1, 4, 1, 3, 2), c(1, 1, 4, 2, 3));
        x.smooth(1).is(true);
        x.crossingsAre(c(1, 1, 1, 2, 2));
        x = Run.of(0, c(1, 1, 4, 2, 3), c(1, 4, 1, 3, 2));
        x.smooth(0).is(true);
        x.crossingsAre(c(1, 1, 1, 2, 2));
        x = Run.of(0, c(1, 1, 4, 3, 2), c(1, 4, 1, 2, 3));
        x.smooth(0).is(true);
        x.crossingsAre(c(1, 1, 1, 2, 2));
    }

    /** "one that closes upon itself is a circle more": one of the two, on either side. */
    private static void promise14_oneCircleMore() {
        Run x = Run.of(0, curls(2));
        x.smooth(0).is(true);
        x.many(4).is(1);
        x.crossingsAre(c(1, 1, 1, 4, 4));
        x = Run.of(7, c(1, 1, 1, 2, 3), c(1, 2, 3, 4, 4));
        x.smooth(0).is(true);
        x.many(4).is(8);
        x.crossingsAre(c(1, 2, 2, 4, 4));
    }

    /** "one that closes upon itself is a circle more": both of them; then there is no crossing. */
    private static void promise14_twoCirclesMore() {
        for (int[] kink : new int[][] {KINK[0], c(-1, 1, 2, 2, 1)}) {
            Run x = Run.of(0, kink);
            x.smooth(0).is(true);
            x.isWithoutCrossings(2);
            x.smooth(0).is(false);
            x.isWithoutCrossings(2);
        }
    }

    /** "Crossing k goes": those behind it move up, be it the first, one between, or the last. */
    private static void promise14_thoseBehindMoveUp() {
        int[][] row = {c(1, 1, 1, 2, 2), c(-1, 3, 4, 4, 3), c(1, 5, 5, 6, 6)};
        int[][][] left = {{row[1], row[2]}, {row[0], row[2]}, {row[0], row[1]}};
        for (int k = 0; k < 3; k++) {
            Run x = Run.of(0, row);
            x.smooth(k).is(true);
            x.crossingsAre(left[k]);
            x.look(2, 0).is(-1000);
            x.look(1, 5).is(1);
            x.many(4).is(2);
        }
    }

    /** "crossings that hang together": a piece may come apart, without a circle. */
    private static void promise14_aPieceComesApart() {
        Run x = Run.of(0, c(1, 6, 6, 1, 5), c(1, 1, 5, 2, 3), c(1, 2, 3, 4, 4));
        x.many(3).is(1);
        x.smooth(1).is(true);
        x.crossingsAre(c(1, 6, 6, 1, 1), c(1, 2, 2, 4, 4));
        x.manyAre(2, 4, 2, 2, 0, 2, 6, 2, 4, 1, 0);
    }

    /** "a circle more": also above the 20 that check() takes, for the document names no end here. */
    private static void promise14_moreThan20Circles() {
        Run x = Run.of(20, kinks(20));
        for (int k = 19; k >= 0; k--) {
            x.smooth(k).is(true);
            x.many(4).is(60 - 2 * k);
        }
        x.isWithoutCrossings(60);
        x.componentIs(59, 0, 0, 0, 59);
        x.component(59, 69).is(0);
        x.component(59, 70).is(-1000);
        x.reverse(59).is(true);
        x.reverse(60).is(false);
        x.check(21).is(-1);
        x.many(4).is(60);
        x.check(1).is(0);
        x.isWithoutCrossings(1);
    }

    /** "Crossing k goes" from as many as there may be, to the last. */
    private static void promise14_full() {
        Run x = Run.of(0, braid(20));
        for (int left = 19; left >= 0; left--) {
            x.smooth(left % 2 == 0 ? 0 : left).is(true);
            x.many(0).is(left);
            x.many(5).is(left);
            x.many(8).is(2);
        }
        x.smooth(0).is(false);
        x.isWithoutCrossings(2);
    }

    /** "Crossing k goes": of the diagram; what is put in stays. */
    private static void promise14_putInStays() {
        Run x = Run.of(0, HOPF);
        x.put(HOPF);
        x.smooth(0).is(true);
        x.many(10).is(2);
        x.check(0).is(0);
        x.crossingsAre(HOPF);
    }
}
