import java.util.Arrays;

/**
 * Codes of link diagrams: crossings are put in one by one, looked at together, and kept as the
 * diagram when they are one.
 *
 * <p>Inside, a place is named by one number, its SPOT: 4 * crossing + place. An edge is named by
 * its rank among the labels, and a dart by 2 * edge, plus 1 when it goes against the edge; so
 * that the document's orders of edges and of darts are the orders of these numbers.
 */
public final class DiagramCode {
    private static final int MOST_CROSSINGS = 20;
    private static final int MOST_SPOTS = 4 * MOST_CROSSINGS;
    private static final int MOST_EDGES = 2 * MOST_CROSSINGS;
    private static final int MOST_DARTS = 2 * MOST_EDGES;
    private static final int MOST_CIRCLES = 20;
    private static final int MOST_LABEL = 9999;

    private static final int REFUSED = -1;
    private static final int NO_EDGE = -1;
    private static final int NO_SPOT = -1;
    private static final int NOTHING_WRONG = -1;
    private static final int NO_ANSWER = -1000;

    private static final int A_DIAGRAM = 0;
    private static final int NOT_AT_TWO_PLACES = 1;
    private static final int NOT_IN_AND_OUT = 2;
    private static final int ON_NO_SPHERE = 3;

    private static final int LINKING = 10;

    private Chart put;
    private Chart held;
    private int circles;
    private int wrong;

    public DiagramCode() {
        put = new Chart();
        held = new Chart();
        circles = 0;
        wrong = NOTHING_WRONG;
    }

    public int crossing(int sign, int l0, int l1, int l2, int l3) {
        if (sign != 1 && sign != -1) {
            return REFUSED;
        }
        if (!isLabel(l0) || !isLabel(l1) || !isLabel(l2) || !isLabel(l3)) {
            return REFUSED;
        }
        return put.row.append(sign, l0, l1, l2, l3) ? put.row.crossings() : REFUSED;
    }

    public int check(int circles) {
        if (circles < 0 || circles > MOST_CIRCLES) {
            return REFUSED;
        }
        int fault = put.survey();
        wrong = put.wrong();
        if (fault == A_DIAGRAM) {
            Chart old = held;
            held = put;
            put = old;
            this.circles = circles;
        }
        put.row.clear();
        return fault;
    }

    public int which() {
        return wrong;
    }

    public int many(int what) {
        switch (what) {
            case 0:
                return held.row.crossings();
            case 1:
                return held.edges.count();
            case 2:
                return held.components.count() + circles;
            case 3:
                return held.pieces.count() + circles;
            case 4:
                return circles;
            case 5:
                return held.row.sumOfSigns();
            case 6:
                return held.faces.count();
            case 7:
                return held.arcs.count() + circles;
            case 8:
                return held.seifert.count() + circles;
            case 9:
                return held.edges.alternate() ? 1 : 0;
            case 10:
                return put.row.crossings();
            default:
                return NO_ANSWER;
        }
    }

    public int look(int k, int what) {
        if (!held.row.has(k)) {
            return NO_ANSWER;
        }
        switch (what) {
            case 0:
            case 1:
            case 2:
            case 3:
                return held.row.label(4 * k + what);
            case 4:
                return held.row.sign(k);
            case 5:
                return held.pieces.numberOf(k);
            case 6:
                return held.lowerComponent(k);
            case 7:
                return held.upperComponent(k);
            default:
                return NO_ANSWER;
        }
    }

    public int edge(int label, int what) {
        Edges edges = held.edges;
        int e = edges.rank(label);
        if (e == NO_EDGE) {
            return NO_EDGE;
        }
        switch (what) {
            case 0:
                return edges.from(e) / 4;
            case 1:
                return edges.from(e) % 4;
            case 2:
                return edges.to(e) / 4;
            case 3:
                return edges.to(e) % 4;
            case 4:
                return edges.label(held.components.next(e));
            case 5:
                return held.components.roundOf(e);
            case 6:
                return held.faces.roundOf(2 * e);
            case 7:
                return held.faces.roundOf(2 * e + 1);
            case 8:
                return edges.label(held.arcs.least(e));
            default:
                return NO_EDGE;
        }
    }

    public int component(int k, int what) {
        if (!hasComponent(k)) {
            return NO_ANSWER;
        }
        if (what >= LINKING) {
            int other = what - LINKING;
            return hasComponent(other) ? held.linking(k, other) : NO_ANSWER;
        }
        if (k >= held.components.count()) {
            return tellCircle(k - held.components.count(), what);
        }
        switch (what) {
            case 0:
                return held.edges.label(held.components.first(k));
            case 1:
                return held.components.size(k);
            case 2:
                return held.sumOfOwnSigns(k);
            case 3:
                return held.pieceOfComponent(k);
            default:
                return NO_ANSWER;
        }
    }

    public int face(int k, int i) {
        int size = held.faces.size(k);
        if (i == -1) {
            return size;
        }
        if (i < 0 || i >= size) {
            return 0;
        }
        int dart = held.faces.member(k, i);
        int label = held.edges.label(dart / 2);
        return dart % 2 == 0 ? label : -label;
    }

    public void mirror() {
        held.row.exchangeAllStrands();
        held.survey();
    }

    public boolean reverse(int k) {
        if (!hasComponent(k)) {
            return false;
        }
        held.turnComponent(k);
        held.survey();
        return true;
    }

    public void number() {
        held.labelAnew();
        held.survey();
    }

    public boolean change(int k) {
        if (!held.row.has(k)) {
            return false;
        }
        held.row.exchangeStrands(k);
        held.survey();
        return true;
    }

    public boolean smooth(int k) {
        if (!held.row.has(k)) {
            return false;
        }
        circles += held.row.smoothAway(k);
        held.survey();
        return true;
    }

    private static boolean isLabel(int label) {
        return label >= 1 && label <= MOST_LABEL;
    }

    private boolean hasComponent(int k) {
        return k >= 0 && k < held.components.count() + circles;
    }

    private int tellCircle(int circle, int what) {
        switch (what) {
            case 0:
            case 1:
            case 2:
                return 0;
            case 3:
                return held.pieces.count() + circle;
            default:
                return NO_ANSWER;
        }
    }

    /** Crossings in their order, with nothing said about whether they fit together. */
    private static final class Row {
        private final int[] signs = new int[MOST_CROSSINGS];
        private final int[] labels = new int[MOST_SPOTS];
        private int crossings = 0;

        int crossings() {
            return crossings;
        }

        int spots() {
            return 4 * crossings;
        }

        boolean has(int k) {
            return k >= 0 && k < crossings;
        }

        int sign(int k) {
            return has(k) ? signs[k] : 0;
        }

        int label(int spot) {
            return spot >= 0 && spot < spots() ? labels[spot] : 0;
        }

        void setLabel(int spot, int label) {
            if (spot >= 0 && spot < spots()) {
                labels[spot] = label;
            }
        }

        void clear() {
            crossings = 0;
        }

        /** Answers whether there was room. */
        boolean append(int sign, int l0, int l1, int l2, int l3) {
            if (crossings >= MOST_CROSSINGS) {
                return false;
            }
            int spot = 4 * crossings;
            signs[crossings] = sign;
            labels[spot] = l0;
            labels[spot + 1] = l1;
            labels[spot + 2] = l2;
            labels[spot + 3] = l3;
            crossings++;
            return true;
        }

        int upperIn(int k) {
            return 4 * k + (sign(k) == 1 ? 3 : 1);
        }

        int upperOut(int k) {
            return 4 * k + (sign(k) == 1 ? 1 : 3);
        }

        boolean goesOut(int spot) {
            int k = spot / 4;
            return spot == lowerOut(k) || spot == upperOut(k);
        }

        /** Where Seifert's circle goes out again that comes in at a spot. */
        int seifertOut(int spot) {
            int k = spot / 4;
            return isUpper(spot) ? lowerOut(k) : upperOut(k);
        }

        int sumOfSigns() {
            int sum = 0;
            for (int k = 0; k < crossings; k++) {
                sum += signs[k];
            }
            return sum;
        }

        void exchangeStrands(int k) {
            beginPlacesAt(k, upperIn(k) % 4);
            flipSign(k);
        }

        void exchangeAllStrands() {
            for (int k = 0; k < crossings; k++) {
                exchangeStrands(k);
            }
        }

        void turnStrands(int k, boolean lower, boolean upper) {
            if (lower) {
                beginPlacesAt(k, 2);
            }
            if (lower != upper) {
                flipSign(k);
            }
        }

        private void flipSign(int k) {
            if (has(k)) {
                signs[k] = -signs[k];
            }
        }

        private void beginPlacesAt(int k, int place) {
            if (!has(k)) {
                return;
            }
            int spot = 4 * k;
            for (int turn = 0; turn < place; turn++) {
                int gone = labels[spot];
                labels[spot] = labels[spot + 1];
                labels[spot + 1] = labels[spot + 2];
                labels[spot + 2] = labels[spot + 3];
                labels[spot + 3] = gone;
            }
        }

        /** Answers how many circles closed upon themselves. */
        int smoothAway(int k) {
            if (!has(k)) {
                return 0;
            }
            int closed = 0;
            closed += joinEdges(label(lowerIn(k)), label(upperOut(k)));
            closed += joinEdges(label(upperIn(k)), label(lowerOut(k)));
            dropCrossing(k);
            return closed;
        }

        private int joinEdges(int in, int out) {
            if (in == out) {
                return 1;
            }
            int lesser = Math.min(in, out);
            int greater = Math.max(in, out);
            for (int spot = 0; spot < spots(); spot++) {
                if (labels[spot] == greater) {
                    labels[spot] = lesser;
                }
            }
            return 0;
        }

        private void dropCrossing(int k) {
            for (int c = k + 1; c < crossings; c++) {
                signs[c - 1] = signs[c];
            }
            for (int spot = 4 * k + 4; spot < spots(); spot++) {
                labels[spot - 4] = labels[spot];
            }
            crossings--;
        }

        static int lowerIn(int k) {
            return 4 * k;
        }

        static int lowerOut(int k) {
            return 4 * k + 2;
        }

        static boolean isUpper(int spot) {
            return spot % 2 != 0;
        }

        static int across(int spot) {
            return spot - spot % 4 + (spot + 2) % 4;
        }

        /** The spot one place clockwise: there a face goes on. */
        static int beside(int spot) {
            return spot - spot % 4 + (spot + 3) % 4;
        }
    }

    /** The labels of a row in their order, and where the edges that bear them begin and end. */
    private static final class Edges {
        // As many as there are spots: before a row is found to be a diagram, each may differ.
        private final int[] labels = new int[MOST_SPOTS];
        private final int[] times = new int[MOST_SPOTS];
        private final int[] from = new int[MOST_SPOTS];
        private final int[] to = new int[MOST_SPOTS];
        private final int[] edgeAt = new int[MOST_SPOTS];
        private int count = 0;

        int count() {
            return count;
        }

        private boolean has(int e) {
            return e >= 0 && e < count;
        }

        int label(int e) {
            return has(e) ? labels[e] : 0;
        }

        int from(int e) {
            return has(e) ? from[e] : NO_SPOT;
        }

        int to(int e) {
            return has(e) ? to[e] : NO_SPOT;
        }

        int at(int spot) {
            return spot >= 0 && spot < MOST_SPOTS ? edgeAt[spot] : NO_EDGE;
        }

        /** The dart that leaves by a spot. */
        int dartFrom(int spot) {
            int e = at(spot);
            return from(e) == spot ? 2 * e : 2 * e + 1;
        }

        /** Answers the least label that is not at two places, or NOTHING_WRONG. */
        int gatherLabels(Row row) {
            count = 0;
            for (int spot = 0; spot < row.spots(); spot++) {
                countLabel(row.label(spot));
            }
            for (int e = 0; e < count; e++) {
                if (times[e] != 2) {
                    return labels[e];
                }
            }
            return NOTHING_WRONG;
        }

        private void countLabel(int label) {
            int rank = countLess(label);
            if (has(rank) && labels[rank] == label) {
                times[rank]++;
                return;
            }
            if (count >= MOST_SPOTS) {
                return;
            }
            for (int e = count; e > rank; e--) {
                labels[e] = labels[e - 1];
                times[e] = times[e - 1];
            }
            labels[rank] = label;
            times[rank] = 1;
            count++;
        }

        /** Answers the least label without a beginning or without an end, or NOTHING_WRONG. */
        int findEnds(Row row) {
            Arrays.fill(from, NO_SPOT);
            Arrays.fill(to, NO_SPOT);
            for (int spot = 0; spot < row.spots(); spot++) {
                noteEnd(spot, rank(row.label(spot)), row.goesOut(spot));
            }
            for (int e = 0; e < count; e++) {
                if (from[e] == NO_SPOT || to[e] == NO_SPOT) {
                    return labels[e];
                }
            }
            return NOTHING_WRONG;
        }

        private void noteEnd(int spot, int e, boolean out) {
            if (spot < 0 || spot >= MOST_SPOTS || !has(e)) {
                return;
            }
            edgeAt[spot] = e;
            if (out) {
                from[e] = spot;
            } else {
                to[e] = spot;
            }
        }

        int rank(int label) {
            int e = countLess(label);
            return has(e) && labels[e] == label ? e : NO_EDGE;
        }

        private int countLess(int label) {
            int e = 0;
            while (e < count && labels[e] < label) {
                e++;
            }
            return e;
        }

        boolean alternate() {
            for (int e = 0; e < count; e++) {
                if (Row.isUpper(from[e]) == Row.isUpper(to[e])) {
                    return false;
                }
            }
            return true;
        }
    }

    /** Rounds of members that each have a next one; numbered by their least members. */
    private static final class Rounds {
        private final int[] next = new int[MOST_DARTS];
        private final int[] roundOf = new int[MOST_DARTS];
        private final int[] first = new int[MOST_DARTS];
        private final int[] size = new int[MOST_DARTS];
        private int members = 0;
        private int count = 0;

        int count() {
            return count;
        }

        private boolean hasMember(int m) {
            return m >= 0 && m < members;
        }

        private boolean hasRound(int round) {
            return round >= 0 && round < count;
        }

        int next(int m) {
            return hasMember(m) ? next[m] : -1;
        }

        int roundOf(int m) {
            return hasMember(m) ? roundOf[m] : -1;
        }

        /** The least member of a round. */
        int first(int round) {
            return hasRound(round) ? first[round] : -1;
        }

        int size(int round) {
            return hasRound(round) ? size[round] : 0;
        }

        /** Member i of a round, counted from its least one on. */
        int member(int round, int i) {
            int m = first(round);
            for (int step = 0; step < i && step < MOST_DARTS; step++) {
                m = next(m);
            }
            return m;
        }

        void begin(int members) {
            this.members = Math.min(members, MOST_DARTS);
            count = 0;
        }

        void link(int m, int nextOne) {
            if (hasMember(m)) {
                next[m] = nextOne;
            }
        }

        void trace() {
            Arrays.fill(roundOf, -1);
            for (int m = 0; m < members; m++) {
                if (roundOf[m] < 0) {
                    walk(m);
                }
            }
        }

        private void walk(int begin) {
            if (count >= MOST_DARTS) {
                return;
            }
            int steps = 0;
            int m = begin;
            while (steps < members && hasMember(m) && roundOf[m] < 0) {
                roundOf[m] = count;
                m = next[m];
                steps++;
            }
            first[count] = begin;
            size[count] = steps;
            count++;
        }
    }

    /** Members that were joined, two by two, to groups; numbered by their least members. */
    private static final class Groups {
        private final int[] least = new int[MOST_EDGES];
        private final int[] numberOf = new int[MOST_EDGES];
        private int members = 0;
        private int count = 0;

        int count() {
            return count;
        }

        private boolean hasMember(int m) {
            return m >= 0 && m < members;
        }

        /** The least member of a member's group. */
        int least(int m) {
            return hasMember(m) ? least[m] : -1;
        }

        int numberOf(int m) {
            return hasMember(m) ? numberOf[m] : -1;
        }

        void begin(int members) {
            this.members = Math.min(members, MOST_EDGES);
            for (int m = 0; m < this.members; m++) {
                least[m] = m;
            }
        }

        void join(int a, int b) {
            int lesser = Math.min(least(a), least(b));
            int greater = Math.max(least(a), least(b));
            if (lesser < 0 || lesser == greater) {
                return;
            }
            for (int m = 0; m < members; m++) {
                if (least[m] == greater) {
                    least[m] = lesser;
                }
            }
        }

        void numberGroups() {
            count = 0;
            for (int m = 0; m < members; m++) {
                if (least[m] == m) {
                    numberOf[m] = count;
                    count++;
                } else {
                    numberOf[m] = numberOf(least[m]);
                }
            }
        }
    }

    /** A row of crossings and, once it is surveyed and found to be a diagram, all about it. */
    private static final class Chart {
        final Row row = new Row();
        final Edges edges = new Edges();
        final Groups pieces = new Groups();
        final Groups arcs = new Groups();
        final Rounds components = new Rounds();
        final Rounds seifert = new Rounds();
        final Rounds faces = new Rounds();
        private final int[] newLabels = new int[MOST_EDGES];
        private int wrong = NOTHING_WRONG;

        /** What the latest survey found wrong. */
        int wrong() {
            return wrong;
        }

        /** Answers the document's number of the first thing that is wrong, or A_DIAGRAM. */
        int survey() {
            wrong = edges.gatherLabels(row);
            if (wrong != NOTHING_WRONG) {
                return NOT_AT_TWO_PLACES;
            }
            wrong = edges.findEnds(row);
            if (wrong != NOTHING_WRONG) {
                return NOT_IN_AND_OUT;
            }
            groupPieces();
            traceFaces();
            wrong = leastCrossingOnNoSphere();
            if (wrong != NOTHING_WRONG) {
                return ON_NO_SPHERE;
            }
            traceStrands();
            groupArcs();
            return A_DIAGRAM;
        }

        private void groupPieces() {
            pieces.begin(row.crossings());
            for (int e = 0; e < edges.count(); e++) {
                pieces.join(edges.from(e) / 4, edges.to(e) / 4);
            }
            pieces.numberGroups();
        }

        private void traceFaces() {
            faces.begin(2 * edges.count());
            for (int e = 0; e < edges.count(); e++) {
                faces.link(2 * e, edges.dartFrom(Row.beside(edges.to(e))));
                faces.link(2 * e + 1, edges.dartFrom(Row.beside(edges.from(e))));
            }
            faces.trace();
        }

        private int leastCrossingOnNoSphere() {
            for (int k = 0; k < row.crossings(); k++) {
                // One crossing speaks for its whole piece.
                if (pieces.least(k) == k && facesLessCrossings(pieces.numberOf(k)) != 2) {
                    return k;
                }
            }
            return NOTHING_WRONG;
        }

        private int facesLessCrossings(int piece) {
            int balance = 0;
            for (int f = 0; f < faces.count(); f++) {
                if (pieceOfEdge(faces.first(f) / 2) == piece) {
                    balance++;
                }
            }
            for (int k = 0; k < row.crossings(); k++) {
                if (pieces.numberOf(k) == piece) {
                    balance--;
                }
            }
            return balance;
        }

        private void traceStrands() {
            components.begin(edges.count());
            seifert.begin(edges.count());
            for (int e = 0; e < edges.count(); e++) {
                components.link(e, edges.at(Row.across(edges.to(e))));
                seifert.link(e, edges.at(row.seifertOut(edges.to(e))));
            }
            components.trace();
            seifert.trace();
        }

        private void groupArcs() {
            arcs.begin(edges.count());
            for (int e = 0; e < edges.count(); e++) {
                if (Row.isUpper(edges.to(e))) {
                    arcs.join(e, components.next(e));
                }
            }
            arcs.numberGroups();
        }

        private int pieceOfEdge(int e) {
            return pieces.numberOf(edges.to(e) / 4);
        }

        int pieceOfComponent(int component) {
            return pieceOfEdge(components.first(component));
        }

        int lowerComponent(int k) {
            return components.roundOf(edges.at(Row.lowerIn(k)));
        }

        int upperComponent(int k) {
            return components.roundOf(edges.at(row.upperIn(k)));
        }

        int sumOfOwnSigns(int component) {
            return sumOfSignsUnder(component, component);
        }

        /** On spheres two components meet an even number of times, so that nothing is cut off. */
        int linking(int one, int other) {
            if (one == other) {
                return 0;
            }
            return (sumOfSignsUnder(one, other) + sumOfSignsUnder(other, one)) / 2;
        }

        private int sumOfSignsUnder(int lower, int upper) {
            int sum = 0;
            for (int k = 0; k < row.crossings(); k++) {
                if (lowerComponent(k) == lower && upperComponent(k) == upper) {
                    sum += row.sign(k);
                }
            }
            return sum;
        }

        /** The survey must be made anew behind it. */
        void turnComponent(int component) {
            for (int k = 0; k < row.crossings(); k++) {
                row.turnStrands(k, lowerComponent(k) == component, upperComponent(k) == component);
            }
        }

        /** The survey must be made anew behind it. */
        void labelAnew() {
            chooseNewLabels();
            for (int spot = 0; spot < row.spots(); spot++) {
                int e = edges.at(spot);
                if (e >= 0 && e < MOST_EDGES) {
                    row.setLabel(spot, newLabels[e]);
                }
            }
        }

        private void chooseNewLabels() {
            int label = 1;
            for (int c = 0; c < components.count(); c++) {
                int e = components.first(c);
                for (int i = 0; i < components.size(c); i++) {
                    if (e >= 0 && e < MOST_EDGES) {
                        newLabels[e] = label;
                    }
                    label++;
                    e = components.next(e);
                }
            }
        }
    }
}
