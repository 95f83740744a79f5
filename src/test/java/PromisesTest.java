/** For each promise: ordinary inputs, the edges that the document names, wrong inputs. */
public final class PromisesTest {
    private static final int[] ODD_NUMBERS = {
        Integer.MIN_VALUE, Integer.MIN_VALUE + 1, -1001, -1000, -2, 10000, Integer.MAX_VALUE - 1, Integer.MAX_VALUE
    };

    private static int wrong = 0;

    public static void main(String[] args) {
        newObject();
        crossing();
        check();
        which();
        many();
        manyOfSeveralPieces();
        look();
        edge();
        component();
        face();
        mirror();
        reverse();
        number();
        change();
        smooth();
        smoothMost();
        fullDiagram();
        oddNumbers();
        System.out.println(wrong == 0 ? "PromisesTest: all as due" : "PromisesTest: " + wrong + " wrong");
        if (wrong != 0) {
            System.exit(1);
        }
    }

    private static void due(String call, long got, long want) {
        if (got != want) {
            wrong++;
            System.out.println(call + " answered " + got + ", due is " + want);
        }
    }

    private static void due(String call, boolean got, boolean want) {
        due(call, got ? 1 : 0, want ? 1 : 0);
    }

    private static void dueCrossing(String promise, DiagramCode x, int k, int... signAndLabels) {
        due(promise + ": look(" + k + ", 4)", x.look(k, 4), signAndLabels[0]);
        for (int place = 0; place < 4; place++) {
            due(promise + ": look(" + k + ", " + place + ")", x.look(k, place), signAndLabels[place + 1]);
        }
    }

    private static void dueFace(String promise, DiagramCode x, int k, int... darts) {
        due(promise + ": face(" + k + ", -1)", x.face(k, -1), darts.length);
        for (int i = 0; i < darts.length; i++) {
            due(promise + ": face(" + k + ", " + i + ")", x.face(k, i), darts[i]);
        }
        due(promise + ": face(" + k + ", " + darts.length + ")", x.face(k, darts.length), 0);
    }

    private static DiagramCode diagram(int circles, int[]... crossings) {
        DiagramCode x = new DiagramCode();
        putAll(x, crossings);
        due("check of a diagram", x.check(circles), 0);
        return x;
    }

    private static void putAll(DiagramCode x, int[]... crossings) {
        for (int[] c : crossings) {
            x.crossing(c[0], c[1], c[2], c[3], c[4]);
        }
    }

    private static int[] c(int sign, int l0, int l1, int l2, int l3) {
        return new int[] {sign, l0, l1, l2, l3};
    }

    private static DiagramCode trefoil() {
        return diagram(0, c(1, 1, 5, 2, 4), c(1, 3, 1, 4, 6), c(1, 5, 3, 6, 2));
    }

    /** Component 0 has the edges 1, 2, component 1 the edges 3, 4. */
    private static DiagramCode hopfLink(int circles) {
        return diagram(circles, c(1, 1, 4, 2, 3), c(1, 4, 1, 3, 2));
    }

    /** A component 1, 2 that lies wholly over a component 3, 4; pieces of one kink before and behind. */
    private static DiagramCode severalPieces() {
        return diagram(2, c(1, 80, 80, 90, 90), c(-1, 3, 1, 4, 2), c(1, 4, 1, 3, 2), c(-1, 60, 70, 70, 60));
    }

    private static void newObject() {
        DiagramCode x = new DiagramCode();
        int[] want = {0, 0, 0, 0, 0, 0, 0, 0, 0, 1, 0};
        for (int what = 0; what < want.length; what++) {
            due("1: many(" + what + ")", x.many(what), want[what]);
        }
        due("1: which()", x.which(), -1);
        due("1: look(0, 0)", x.look(0, 0), -1000);
        due("1: edge(1, 0)", x.edge(1, 0), -1);
        due("1: component(0, 0)", x.component(0, 0), -1000);
        due("1: face(0, -1)", x.face(0, -1), 0);
        x.mirror();
        x.number();
        due("1: reverse(0)", x.reverse(0), false);
        due("1: change(0)", x.change(0), false);
        due("1: smooth(0)", x.smooth(0), false);
        due("1: many(0)", x.many(0), 0);
    }

    private static void crossing() {
        DiagramCode x = new DiagramCode();
        due("2: sign 0", x.crossing(0, 1, 1, 2, 2), -1);
        due("2: sign 2", x.crossing(2, 1, 1, 2, 2), -1);
        due("2: sign -2", x.crossing(-2, 1, 1, 2, 2), -1);
        int[] wrongLabels = {0, -1, 10000, Integer.MIN_VALUE, Integer.MAX_VALUE};
        for (int label : wrongLabels) {
            due("2: l0 " + label, x.crossing(1, label, 1, 2, 2), -1);
            due("2: l1 " + label, x.crossing(1, 1, label, 2, 2), -1);
            due("2: l2 " + label, x.crossing(1, 1, 1, label, 2), -1);
            due("2: l3 " + label, x.crossing(1, 1, 1, 2, label), -1);
        }
        due("2: none was put in", x.many(10), 0);
        for (int n = 1; n <= 20; n++) {
            due("2: crossing " + n, x.crossing(n % 2 == 0 ? 1 : -1, 1, 9999, 1, 9999), n);
        }
        due("2: crossing 21", x.crossing(1, 1, 1, 2, 2), -1);
        due("2: many(10)", x.many(10), 20);
        due("2: many(0)", x.many(0), 0);
    }

    private static void check() {
        DiagramCode x = hopfLink(3);
        due("3: circles", x.many(4), 3);
        due("3: put in is gone", x.many(10), 0);
        putAll(x, c(1, 1, 1, 2, 2));
        due("3: circles -1", x.check(-1), -1);
        due("3: circles 21", x.check(21), -1);
        due("3: refused, put in stays", x.many(10), 1);
        due("3: refused, diagram stays", x.many(0), 2);
        due("3: circles 20", x.check(20), 0);
        due("3: the new diagram", x.many(0), 1);
        due("3: its circles", x.many(4), 20);

        dueFault(1, 3, c(1, 1, 1, 2, 2), c(1, 3, 3, 4, 3));
        dueFault(1, 3, c(1, 3, 3, 3, 3));
        dueFault(1, 5, c(1, 1, 1, 2, 2), c(1, 6, 6, 7, 5));
        dueFault(1, 9, c(1, 3, 2, 2, 3), c(1, 9, 10, 11, 12));
        dueFault(2, 2, c(1, 5, 5, 6, 6), c(1, 3, 2, 2, 3));
        dueFault(2, 8, c(1, 1, 2, 1, 2), c(1, 9, 8, 8, 9));
        dueFault(3, 0, c(1, 1, 2, 1, 2));
        dueFault(3, 0, c(-1, 1, 2, 1, 2), c(1, 1001, 1002, 1001, 1002));
        dueFault(3, 1, c(1, 7, 7, 8, 8), c(1, 20, 21, 22, 23), c(-1, 5, 6, 6, 5), c(1, 22, 23, 20, 21));
        emptyCheck();
    }

    private static void dueFault(int fault, int which, int[]... crossings) {
        DiagramCode x = hopfLink(3);
        putAll(x, crossings);
        due("3: check for fault " + fault, x.check(5), fault);
        due("4: which() for fault " + fault, x.which(), which);
        due("3: crossings stay", x.many(0), 2);
        due("3: circles stay", x.many(4), 3);
        due("3: what was put in is gone", x.many(10), 0);
        dueCrossing("3", x, 1, 1, 4, 1, 3, 2);
        due("3: linking stays", x.component(0, 11), 1);
    }

    private static void emptyCheck() {
        DiagramCode x = trefoil();
        due("3: nothing put in", x.check(2), 0);
        due("3: no crossing", x.many(0), 0);
        due("3: no edge", x.many(1), 0);
        due("3: two components", x.many(2), 2);
        due("3: two pieces", x.many(3), 2);
        due("3: no face", x.many(6), 0);
        due("3: two arcs", x.many(7), 2);
        due("3: two of Seifert's", x.many(8), 2);
        due("3: alternating", x.many(9), 1);
        due("3: edge is gone", x.edge(1, 0), -1);
        due("3: face is gone", x.face(0, -1), 0);
    }

    private static void which() {
        DiagramCode x = trefoil();
        due("4: nothing wrong", x.which(), -1);
        putAll(x, c(1, 7, 8, 9, 10));
        x.check(0);
        due("4: label once", x.which(), 7);
        x.check(21);
        due("4: a refused check counts for nothing", x.which(), 7);
        x.mirror();
        x.number();
        x.smooth(0);
        putAll(x, c(1, 1, 2, 1, 2));
        due("4: only check() tells", x.which(), 7);
        x.check(0);
        due("4: crossing 0", x.which(), 0);
        x.check(0);
        due("4: nothing wrong again", x.which(), -1);
    }

    private static void many() {
        DiagramCode x = trefoil();
        int[] ofTrefoil = {3, 6, 1, 1, 0, 3, 5, 3, 2, 1, 0};
        for (int what = 0; what < ofTrefoil.length; what++) {
            due("5: trefoil, many(" + what + ")", x.many(what), ofTrefoil[what]);
        }
        x = hopfLink(4);
        putAll(x, c(1, 1, 2, 3, 4));
        int[] ofHopfLink = {2, 4, 6, 5, 4, 2, 4, 6, 6, 1, 1};
        for (int what = 0; what < ofHopfLink.length; what++) {
            due("5: Hopf link, many(" + what + ")", x.many(what), ofHopfLink[what]);
        }
        due("5: many(11)", x.many(11), -1000);
        due("5: many(-1)", x.many(-1), -1000);
    }

    private static void manyOfSeveralPieces() {
        // Arcs: 80 with 90, 60 with 70, 1 with 2, 3, 4, and the circles.
        int[] want = {4, 8, 6, 5, 2, 0, 10, 7, 8, 0, 0};
        DiagramCode x = severalPieces();
        for (int what = 0; what < want.length; what++) {
            due("5: several pieces, many(" + what + ")", x.many(what), want[what]);
        }
        due("5: a kink alternates", diagram(0, c(1, 80, 80, 90, 90)).many(9), 1);
    }

    private static void look() {
        DiagramCode x = severalPieces();
        dueCrossing("6", x, 0, 1, 80, 80, 90, 90);
        dueCrossing("6", x, 1, -1, 3, 1, 4, 2);
        dueCrossing("6", x, 3, -1, 60, 70, 70, 60);
        int[][] pieceLowerUpper = {{0, 3, 3}, {1, 1, 0}, {1, 1, 0}, {2, 2, 2}};
        for (int k = 0; k < 4; k++) {
            for (int i = 0; i < 3; i++) {
                due("6: look(" + k + ", " + (5 + i) + ")", x.look(k, 5 + i), pieceLowerUpper[k][i]);
            }
        }
        due("6: look(0, 8)", x.look(0, 8), -1000);
        due("6: look(0, -1)", x.look(0, -1), -1000);
        due("6: look(4, 0)", x.look(4, 0), -1000);
        due("6: look(-1, 0)", x.look(-1, 0), -1000);
    }

    private static void edge() {
        DiagramCode x = trefoil();
        int[][] want = {
            {1, 1, 0, 0, 2, 0, 0, 1, 1},
            {0, 2, 2, 3, 3, 0, 2, 3, 2},
            {2, 1, 1, 0, 4, 0, 4, 1, 2},
            {1, 2, 0, 3, 5, 0, 2, 0, 4},
            {0, 1, 2, 0, 6, 0, 3, 1, 4},
            {2, 2, 1, 3, 1, 0, 2, 4, 1},
        };
        for (int label = 1; label <= 6; label++) {
            for (int what = 0; what < 9; what++) {
                due("7: edge(" + label + ", " + what + ")", x.edge(label, what), want[label - 1][what]);
            }
        }
        due("7: edge(1, 9)", x.edge(1, 9), -1);
        due("7: edge(1, -1)", x.edge(1, -1), -1);
        due("7: edge(7, 0)", x.edge(7, 0), -1);
        due("7: edge(0, 0)", x.edge(0, 0), -1);
        x = severalPieces();
        due("7: an arc that is a round", x.edge(2, 8), 1);
        due("7: an arc over itself", x.edge(90, 8), 80);
        due("7: component of 80", x.edge(80, 5), 3);
        due("7: component of 70", x.edge(70, 5), 2);
        due("7: next of 80", x.edge(80, 4), 90);
        due("7: next of 90", x.edge(90, 4), 80);
    }

    private static void component() {
        DiagramCode x = severalPieces();
        int[][] want = {{1, 2, 0, 1}, {3, 2, 0, 1}, {60, 2, -1, 2}, {80, 2, 1, 0}, {0, 0, 0, 3}, {0, 0, 0, 4}};
        for (int k = 0; k < want.length; k++) {
            for (int what = 0; what < 4; what++) {
                due("8: component(" + k + ", " + what + ")", x.component(k, what), want[k][what]);
            }
            for (int j = 0; j < want.length; j++) {
                due("8: component(" + k + ", 10 + " + j + ")", x.component(k, 10 + j), 0);
            }
            due("8: component(" + k + ", 16)", x.component(k, 16), -1000);
            due("8: component(" + k + ", 9)", x.component(k, 9), -1000);
            due("8: component(" + k + ", 4)", x.component(k, 4), -1000);
            due("8: component(" + k + ", -1)", x.component(k, -1), -1000);
        }
        due("8: component(6, 0)", x.component(6, 0), -1000);
        due("8: component(6, 10)", x.component(6, 10), -1000);
        due("8: component(-1, 0)", x.component(-1, 0), -1000);
        x = hopfLink(1);
        due("8: linking 0, 1", x.component(0, 11), 1);
        due("8: linking 1, 0", x.component(1, 10), 1);
        due("8: linking 0, 0", x.component(0, 10), 0);
        due("8: linking 0, circle", x.component(0, 12), 0);
        due("8: linking circle, 1", x.component(2, 11), 0);
        due("8: linking circle, itself", x.component(2, 12), 0);
        due("8: linking 0, none", x.component(0, 13), -1000);
        due("8: signs with itself", x.component(0, 2), 0);
        x.mirror();
        due("8: linking of the mirror image", x.component(0, 11), -1);
        due("8: a knot's own signs", trefoil().component(0, 2), 3);
    }

    private static void face() {
        DiagramCode x = trefoil();
        dueFace("9", x, 0, 1, -4);
        dueFace("9", x, 1, -1, -3, -5);
        dueFace("9", x, 2, 2, 6, 4);
        dueFace("9", x, 3, -2, 5);
        dueFace("9", x, 4, 3, -6);
        dueFace("9", x, 5);
        dueFace("9", x, -1);
        due("9: face(0, -2)", x.face(0, -2), 0);
        due("9: face(5, 0)", x.face(5, 0), 0);
        x = diagram(0, c(1, 9, 9, 4, 4));
        dueFace("9", x, 0, 4);
        dueFace("9", x, 1, -4, 9);
        dueFace("9", x, 2, -9);
    }

    private static void mirror() {
        DiagramCode x = trefoil();
        x.mirror();
        dueCrossing("10", x, 0, -1, 4, 1, 5, 2);
        dueCrossing("10", x, 1, -1, 6, 3, 1, 4);
        dueCrossing("10", x, 2, -1, 2, 5, 3, 6);
        due("10: sum of signs", x.many(5), -3);
        due("10: alternating", x.many(9), 1);
        dueFace("10", x, 1, -1, -3, -5);
        due("10: arcs", x.edge(2, 8), 1);
        x.mirror();
        dueCrossing("10", x, 0, 1, 1, 5, 2, 4);
        dueCrossing("10", x, 2, 1, 5, 3, 6, 2);
    }

    private static void reverse() {
        DiagramCode x = hopfLink(2);
        due("11: reverse(0)", x.reverse(0), true);
        dueCrossing("11", x, 0, -1, 2, 3, 1, 4);
        dueCrossing("11", x, 1, -1, 4, 1, 3, 2);
        due("11: linking", x.component(0, 11), -1);
        due("11: edge 1 comes from", x.edge(1, 0), 0);
        due("11: edge 1 goes to", x.edge(1, 2), 1);
        due("11: reverse(1)", x.reverse(1), true);
        dueCrossing("11", x, 0, 1, 2, 3, 1, 4);
        dueCrossing("11", x, 1, 1, 3, 2, 4, 1);
        due("11: a circle", x.reverse(3), true);
        dueCrossing("11", x, 1, 1, 3, 2, 4, 1);
        due("11: none", x.reverse(4), false);
        due("11: none below 0", x.reverse(-1), false);
        x = trefoil();
        due("11: a knot", x.reverse(0), true);
        dueCrossing("11", x, 0, 1, 2, 4, 1, 5);
        due("11: next of 2", x.edge(2, 4), 1);
        dueFace("11", x, 0, 1, 3, 5);
    }

    private static void number() {
        DiagramCode x = diagram(0, c(1, 50, 100, 7, 8), c(1, 9999, 50, 8, 9), c(1, 100, 9999, 9, 7));
        x.number();
        dueCrossing("12", x, 0, 1, 6, 4, 1, 3);
        dueCrossing("12", x, 1, 1, 2, 6, 3, 5);
        dueCrossing("12", x, 2, 1, 4, 2, 5, 1);
        due("12: old label", x.edge(50, 0), -1);
        due("12: next of 6", x.edge(6, 4), 1);
        x = diagram(0, c(1, 30, 10, 20, 40), c(1, 10, 30, 40, 20));
        x.number();
        dueCrossing("12", x, 0, 1, 4, 1, 3, 2);
        dueCrossing("12", x, 1, 1, 1, 4, 2, 3);
        due("12: a component's least label", x.component(1, 0), 3);
        x.number();
        dueCrossing("12", x, 0, 1, 4, 1, 3, 2);
    }

    private static void change() {
        DiagramCode x = hopfLink(0);
        due("13: change(2)", x.change(2), false);
        due("13: change(-1)", x.change(-1), false);
        due("13: change(0)", x.change(0), true);
        dueCrossing("13", x, 0, -1, 3, 1, 4, 2);
        dueCrossing("13", x, 1, 1, 4, 1, 3, 2);
        due("13: linking", x.component(0, 11), 0);
        due("13: alternating", x.many(9), 0);
        due("13: arcs", x.many(7), 3);
        due("13: change(0) again", x.change(0), true);
        dueCrossing("13", x, 0, 1, 1, 4, 2, 3);
        due("13: linking again", x.component(0, 11), 1);
    }

    private static void smooth() {
        DiagramCode x = trefoil();
        due("14: smooth(3)", x.smooth(3), false);
        due("14: smooth(-1)", x.smooth(-1), false);
        due("14: smooth(0)", x.smooth(0), true);
        due("14: crossings", x.many(0), 2);
        due("14: circles", x.many(4), 0);
        dueCrossing("14", x, 0, 1, 3, 1, 2, 6);
        dueCrossing("14", x, 1, 1, 1, 3, 6, 2);
        due("14: linking", x.component(0, 11), 1);
        due("14: edges that are gone", x.edge(5, 0), -1);
        x = diagram(0, c(1, 1, 1, 2, 3), c(1, 2, 3, 4, 4));
        due("14: a loop", x.smooth(0), true);
        due("14: one circle", x.many(4), 1);
        due("14: two components", x.many(2), 2);
        dueCrossing("14", x, 0, 1, 2, 2, 4, 4);
        due("14: the last crossing", x.smooth(0), true);
        due("14: three circles", x.many(4), 3);
        due("14: no crossing", x.smooth(0), false);
        // A crossing whose going parts the piece into two.
        x = diagram(0, c(1, 6, 6, 1, 5), c(1, 1, 5, 2, 3), c(1, 2, 3, 4, 4));
        due("14: one piece", x.many(3), 1);
        due("14: the middle", x.smooth(1), true);
        due("14: two pieces", x.many(3), 2);
        due("14: no circle", x.many(4), 0);
        dueCrossing("14", x, 0, 1, 6, 6, 1, 1);
        dueCrossing("14", x, 1, 1, 2, 2, 4, 4);
        due("14: piece of the one behind", x.look(1, 5), 1);
    }

    private static void smoothMost() {
        DiagramCode x = new DiagramCode();
        for (int k = 0; k < 20; k++) {
            x.crossing(1, 2 * k + 1, 2 * k + 1, 2 * k + 2, 2 * k + 2);
        }
        due("14: check(20)", x.check(20), 0);
        due("14: components before", x.many(2), 40);
        due("14: pieces before", x.many(3), 40);
        due("14: faces before", x.many(6), 60);
        for (int k = 19; k >= 0; k--) {
            due("14: smooth(" + k + ")", x.smooth(k), true);
        }
        due("14: circles", x.many(4), 60);
        due("14: the last one's piece", x.component(59, 3), 59);
        due("14: linking of circles", x.component(0, 69), 0);
        due("14: linking with none", x.component(0, 70), -1000);
        due("14: reverse(59)", x.reverse(59), true);
        due("14: reverse(60)", x.reverse(60), false);
        due("14: check again", x.check(1), 0);
        due("14: circles again", x.many(4), 1);
    }

    /** As many crossings as there may be; then fewer, so that nothing of the greater diagram may show. */
    private static void fullDiagram() {
        DiagramCode x = new DiagramCode();
        for (int k = 0; k < 20; k++) {
            x.crossing(1, 4 * k + 1, 4 * k + 2, 4 * k + 3, 4 * k + 4);
        }
        due("3: eighty labels", x.check(0), 1);
        due("4: eighty labels", x.which(), 1);
        // A closed braid of two strands: crossing k has the edges 2 k + 1, 2 k + 2 below it.
        for (int k = 0; k < 20; k++) {
            int above = (2 * k + 2) % 40;
            x.crossing(1, 2 * k + 2, above + 2, above + 1, 2 * k + 1);
        }
        due("3: twenty crossings", x.check(0), 0);
        int[] want = {20, 40, 2, 1, 0, 20, 22, 20, 2, 1, 0};
        for (int what = 0; what < want.length; what++) {
            due("5: twenty crossings, many(" + what + ")", x.many(what), want[what]);
        }
        due("8: linking", x.component(1, 10), 10);
        due("9: a long face", x.face(0, -1), 20);
        due("9: its last dart", x.face(0, 19), 39);
        due("9: no dart behind it", x.face(0, 20), 0);
        x.mirror();
        due("10: linking", x.component(1, 10), -10);
        due("11: reverse(1)", x.reverse(1), true);
        due("11: linking", x.component(1, 10), 10);
        due("7: component of 40", x.edge(40, 5), 0);
        due("7: component of 39", x.edge(39, 5), 1);
        x.number();
        due("12: edge 20", x.edge(20, 4), 1);
        due("12: edge 21 comes behind 40", x.edge(40, 4), 21);
        due("13: change(19)", x.change(19), true);
        due("13: signs", x.many(5), 18);
        due("14: smooth(4)", x.smooth(4), true);
        due("14: signs", x.many(5), 17);
        for (int k = 0; k < 19; k++) {
            due("14: sign of crossing " + k, x.look(k, 4), k == 18 ? -1 : 1);
        }
        due("14: smooth(18)", x.smooth(18), true);
        due("14: signs again", x.many(5), 18);
        due("14: no crossing 18", x.look(18, 4), -1000);
        putAll(x, c(1, 1, 1, 2, 2));
        due("3: one crossing", x.check(0), 0);
        due("5: its sign", x.many(5), 1);
        dueFace("9", x, 3);
        due("6: no crossing 1", x.look(1, 0), -1000);
        due("7: no edge 3", x.edge(3, 0), -1);
        due("8: no component 1", x.component(1, 0), -1000);
    }

    private static void oddNumbers() {
        DiagramCode x = hopfLink(3);
        for (int n : ODD_NUMBERS) {
            due("check(" + n + ")", x.check(n), -1);
            due("many(" + n + ")", x.many(n), -1000);
            due("look(" + n + ", 0)", x.look(n, 0), -1000);
            due("look(0, " + n + ")", x.look(0, n), -1000);
            due("edge(" + n + ", 0)", x.edge(n, 0), -1);
            due("edge(1, " + n + ")", x.edge(1, n), -1);
            due("component(" + n + ", 0)", x.component(n, 0), -1000);
            due("component(0, " + n + ")", x.component(0, n), -1000);
            due("component(4, " + n + ")", x.component(4, n), -1000);
            due("face(" + n + ", -1)", x.face(n, -1), 0);
            due("face(0, " + n + ")", x.face(0, n), 0);
            due("reverse(" + n + ")", x.reverse(n), false);
            due("change(" + n + ")", x.change(n), false);
            due("smooth(" + n + ")", x.smooth(n), false);
        }
        due("crossings after odd numbers", x.many(0), 2);
    }
}
