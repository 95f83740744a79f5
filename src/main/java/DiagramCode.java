import java.util.Arrays;

/**
 * Codes of link diagrams: crossings are put in one by one, looked at together, and kept as the
 * diagram when they are one.
 *
 * <p>Inside, a place is named by one number, its SPOT: 4 * crossing + place. An edge is named by
 * its rank among the labels, and a dart by 2 * edge, plus 1 when it goes against the edge; so
 * that the document's orders of edges and of darts are the orders of these numbers.
 */
public final class DiagramCode {
    private static final int MOST_CROSSINGS = 20;
    private static final int MOST_SPOTS = 4 * MOST_CROSSINGS;
    private static final int MOST_EDGES = 2 * MOST_CROSSINGS;
    private static final int MOST_DARTS = 2 * MOST_EDGES;
    private static final int MOST_CIRCLES = 20;
    private static final int MOST_LABEL = 9999;

    private static final int REFUSED = -1;
    private static final int NO_EDGE = -1;
    private static final int NOTHING_WRONG = -1;
    private static final int NO_ANSWER = -1000;

    private static final int A_DIAGRAM = 0;
    private static final int NOT_AT_TWO_PLACES = 1;
    private static final int NOT_IN_AND_OUT = 2;
    private static final int ON_NO_SPHERE = 3;

    private static final int LINKING = 10;

    private Chart put;
    private Chart held;
    private int circles;
    private int wrong;

    public DiagramCode() {
        put = new Chart();
        held = new Chart();
        circles = 0;
        wrong = NOTHING_WRONG;
    }

    public int crossing(int sign, int l0, int l1, int l2, int l3) {
        if (sign != 1 && sign != -1) {
            return REFUSED;
        }
        if (!isLabel(l0) || !isLabel(l1) || !isLabel(l2) || !isLabel(l3)) {
            return REFUSED;
        }
        if (put.row.crossings >= MOST_CROSSINGS) {
            return REFUSED;
        }
        put.row.append(sign, l0, l1, l2, l3);
        return put.row.crossings;
    }

    public int check(int circles) {
        if (circles < 0 || circles > MOST_CIRCLES) {
            return REFUSED;
        }
        int fault = put.survey();
        wrong = put.wrong;
        if (fault == A_DIAGRAM) {
            Chart old = held;
            held = put;
            put = old;
            this.circles = circles;
        }
        put.row.crossings = 0;
        return fault;
    }

    public int which() {
        return wrong;
    }

    public int many(int what) {
        switch (what) {
            case 0:
                return held.row.crossings;
            case 1:
                return held.edges.count;
            case 2:
                return held.components.count + circles;
            case 3:
                return held.pieces.count + circles;
            case 4:
                return circles;
            case 5:
                return held.row.sumOfSigns();
            case 6:
                return held.faces.count;
            case 7:
                return held.arcs.count + circles;
            case 8:
                return held.seifert.count + circles;
            case 9:
                return held.edges.alternate() ? 1 : 0;
            case 10:
                return put.row.crossings;
            default:
                return NO_ANSWER;
        }
    }

    public int look(int k, int what) {
        if (!held.row.has(k)) {
            return NO_ANSWER;
        }
        switch (what) {
            case 0:
            case 1:
            case 2:
            case 3:
                return held.row.labels[4 * k + what];
            case 4:
                return held.row.signs[k];
            case 5:
                return held.pieces.numberOf[k];
            case 6:
                return held.lowerComponent(k);
            case 7:
                return held.upperComponent(k);
            default:
                return NO_ANSWER;
        }
    }

    public int edge(int label, int what) {
        Edges edges = held.edges;
        int e = edges.rank(label);
        if (e == NO_EDGE) {
            return NO_EDGE;
        }
        switch (what) {
            case 0:
                return edges.from[e] / 4;
            case 1:
                return edges.from[e] % 4;
            case 2:
                return edges.to[e] / 4;
            case 3:
                return edges.to[e] % 4;
            case 4:
                return edges.labels[held.components.next[e]];
            case 5:
                return held.components.roundOf[e];
            case 6:
                return held.faces.roundOf[2 * e];
            case 7:
                return held.faces.roundOf[2 * e + 1];
            case 8:
                return edges.labels[held.arcs.least[e]];
            default:
                return NO_EDGE;
        }
    }

    public int component(int k, int what) {
        if (!hasComponent(k)) {
            return NO_ANSWER;
        }
        if (what >= LINKING) {
            int other = what - LINKING;
            return hasComponent(other) ? held.linking(k, other) : NO_ANSWER;
        }
        if (k >= held.components.count) {
            return tellCircle(k - held.components.count, what);
        }
        switch (what) {
            case 0:
                return held.edges.labels[held.components.first[k]];
            case 1:
                return held.components.size[k];
            case 2:
                return held.sumOfOwnSigns(k);
            case 3:
                return held.pieceOfComponent(k);
            default:
                return NO_ANSWER;
        }
    }

    public int face(int k, int i) {
        Rounds faces = held.faces;
        if (k < 0 || k >= faces.count) {
            return 0;
        }
        if (i == -1) {
            return faces.size[k];
        }
        if (i < 0 || i >= faces.size[k]) {
            return 0;
        }
        int dart = faces.member(k, i);
        int label = held.edges.labels[dart / 2];
        return dart % 2 == 0 ? label : -label;
    }

    public void mirror() {
        for (int k = 0; k < held.row.crossings; k++) {
            held.row.exchangeStrands(k);
        }
        held.survey();
    }

    public boolean reverse(int k) {
        if (!hasComponent(k)) {
            return false;
        }
        if (k < held.components.count) {
            held.turnComponent(k);
            held.survey();
        }
        return true;
    }

    public void number() {
        held.labelAnew();
        held.survey();
    }

    public boolean change(int k) {
        if (!held.row.has(k)) {
            return false;
        }
        held.row.exchangeStrands(k);
        held.survey();
        return true;
    }

    public boolean smooth(int k) {
        if (!held.row.has(k)) {
            return false;
        }
        Row row = held.row;
        circles += row.joinSpots(4 * k, row.upperOut(k));
        circles += row.joinSpots(row.upperIn(k), 4 * k + 2);
        row.dropCrossing(k);
        held.survey();
        return true;
    }

    private static boolean isLabel(int label) {
        return label >= 1 && label <= MOST_LABEL;
    }

    private boolean hasComponent(int k) {
        return k >= 0 && k < held.components.count + circles;
    }

    private int tellCircle(int circle, int what) {
        switch (what) {
            case 0:
            case 1:
            case 2:
                return 0;
            case 3:
                return held.pieces.count + circle;
            default:
                return NO_ANSWER;
        }
    }

    /** Crossings in their order, with nothing said about whether they fit together. */
    private static final class Row {
        final int[] signs = new int[MOST_CROSSINGS];
        final int[] labels = new int[MOST_SPOTS];
        int crossings = 0;

        boolean has(int k) {
            return k >= 0 && k < crossings;
        }

        void append(int sign, int l0, int l1, int l2, int l3) {
            if (crossings >= MOST_CROSSINGS) {
                return;
            }
            int spot = 4 * crossings;
            signs[crossings] = sign;
            labels[spot] = l0;
            labels[spot + 1] = l1;
            labels[spot + 2] = l2;
            labels[spot + 3] = l3;
            crossings++;
        }

        int upperIn(int k) {
            return 4 * k + (signs[k] == 1 ? 3 : 1);
        }

        int upperOut(int k) {
            return 4 * k + (signs[k] == 1 ? 1 : 3);
        }

        boolean goesOut(int spot) {
            int k = spot / 4;
            return spot == 4 * k + 2 || spot == upperOut(k);
        }

        /** Where Seifert's circle goes out again that comes in at a spot. */
        int seifertOut(int spot) {
            int k = spot / 4;
            return isUpper(spot) ? 4 * k + 2 : upperOut(k);
        }

        int sumOfSigns() {
            int sum = 0;
            for (int k = 0; k < crossings; k++) {
                sum += signs[k];
            }
            return sum;
        }

        void exchangeStrands(int k) {
            beginPlacesAt(k, upperIn(k) % 4);
            signs[k] = -signs[k];
        }

        void turnStrands(int k, boolean lower, boolean upper) {
            if (lower) {
                beginPlacesAt(k, 2);
            }
            if (lower != upper) {
                signs[k] = -signs[k];
            }
        }

        private void beginPlacesAt(int k, int place) {
            int spot = 4 * k;
            for (int turn = 0; turn < place; turn++) {
                int gone = labels[spot];
                labels[spot] = labels[spot + 1];
                labels[spot + 1] = labels[spot + 2];
                labels[spot + 2] = labels[spot + 3];
                labels[spot + 3] = gone;
            }
        }

        /** Makes one edge of those at two spots; answers how many circles that closes. */
        int joinSpots(int in, int out) {
            int lesser = Math.min(labels[in], labels[out]);
            int greater = Math.max(labels[in], labels[out]);
            if (lesser == greater) {
                return 1;
            }
            for (int spot = 0; spot < 4 * crossings; spot++) {
                if (labels[spot] == greater) {
                    labels[spot] = lesser;
                }
            }
            return 0;
        }

        void dropCrossing(int k) {
            for (int c = k + 1; c < crossings; c++) {
                signs[c - 1] = signs[c];
                System.arraycopy(labels, 4 * c, labels, 4 * (c - 1), 4);
            }
            crossings--;
        }

        static boolean isUpper(int spot) {
            return spot % 2 == 1;
        }

        static int across(int spot) {
            return spot - spot % 4 + (spot + 2) % 4;
        }

        /** The spot one place clockwise: there a face goes on. */
        static int beside(int spot) {
            return spot - spot % 4 + (spot + 3) % 4;
        }
    }

    /** The labels of a row in their order, and where the edges that bear them begin and end. */
    private static final class Edges {
        // As many as there are spots: before a row is found to be a diagram, each may differ.
        final int[] labels = new int[MOST_SPOTS];
        final int[] times = new int[MOST_SPOTS];
        final int[] from = new int[MOST_SPOTS];
        final int[] to = new int[MOST_SPOTS];
        final int[] at = new int[MOST_SPOTS];
        int count = 0;

        /** Answers the least label that is not at two places, or NOTHING_WRONG. */
        int gatherLabels(Row row) {
            count = 0;
            for (int spot = 0; spot < 4 * row.crossings; spot++) {
                countLabel(row.labels[spot]);
            }
            for (int e = 0; e < count; e++) {
                if (times[e] != 2) {
                    return labels[e];
                }
            }
            return NOTHING_WRONG;
        }

        private void countLabel(int label) {
            int rank = rankOrBehind(label);
            if (rank < count && labels[rank] == label) {
                times[rank]++;
                return;
            }
            if (count >= MOST_SPOTS) {
                return;
            }
            for (int e = count; e > rank; e--) {
                labels[e] = labels[e - 1];
                times[e] = times[e - 1];
            }
            labels[rank] = label;
            times[rank] = 1;
            count++;
        }

        /** Answers the least label without a beginning or without an end, or NOTHING_WRONG. */
        int findEnds(Row row) {
            Arrays.fill(from, -1);
            Arrays.fill(to, -1);
            for (int spot = 0; spot < 4 * row.crossings; spot++) {
                int e = rank(row.labels[spot]);
                if (e == NO_EDGE) {
                    continue;
                }
                at[spot] = e;
                if (row.goesOut(spot)) {
                    from[e] = spot;
                } else {
                    to[e] = spot;
                }
            }
            for (int e = 0; e < count; e++) {
                if (from[e] < 0 || to[e] < 0) {
                    return labels[e];
                }
            }
            return NOTHING_WRONG;
        }

        int rank(int label) {
            int e = rankOrBehind(label);
            return e < count && labels[e] == label ? e : NO_EDGE;
        }

        /** How many labels are less than this one. */
        private int rankOrBehind(int label) {
            int e = 0;
            while (e < count && labels[e] < label) {
                e++;
            }
            return e;
        }

        /** The dart that leaves by a spot. */
        int dartFrom(int spot) {
            int e = at[spot];
            return from[e] == spot ? 2 * e : 2 * e + 1;
        }

        boolean alternate() {
            for (int e = 0; e < count; e++) {
                if (Row.isUpper(from[e]) == Row.isUpper(to[e])) {
                    return false;
                }
            }
            return true;
        }
    }

    /** Rounds of members that each have a next one; numbered by their least members. */
    private static final class Rounds {
        final int[] next = new int[MOST_DARTS];
        final int[] roundOf = new int[MOST_DARTS];
        final int[] first = new int[MOST_DARTS];
        final int[] size = new int[MOST_DARTS];
        int count = 0;

        void trace(int members) {
            count = 0;
            Arrays.fill(roundOf, -1);
            for (int m = 0; m < members; m++) {
                if (roundOf[m] < 0) {
                    walk(m, members);
                }
            }
        }

        private void walk(int begin, int members) {
            int steps = 0;
            int m = begin;
            while (steps < members && roundOf[m] < 0) {
                roundOf[m] = count;
                m = next[m];
                steps++;
            }
            first[count] = begin;
            size[count] = steps;
            count++;
        }

        int member(int round, int i) {
            int m = first[round];
            for (int step = 0; step < i && step < MOST_DARTS; step++) {
                m = next[m];
            }
            return m;
        }
    }

    /** Members that were joined, two by two, to groups; numbered by their least members. */
    private static final class Groups {
        final int[] least = new int[MOST_EDGES];
        final int[] numberOf = new int[MOST_EDGES];
        int members = 0;
        int count = 0;

        void begin(int members) {
            this.members = members;
            for (int m = 0; m < members; m++) {
                least[m] = m;
            }
        }

        void join(int a, int b) {
            int lesser = Math.min(least[a], least[b]);
            int greater = Math.max(least[a], least[b]);
            if (lesser == greater) {
                return;
            }
            for (int m = 0; m < members; m++) {
                if (least[m] == greater) {
                    least[m] = lesser;
                }
            }
        }

        void numberGroups() {
            count = 0;
            for (int m = 0; m < members; m++) {
                if (least[m] == m) {
                    numberOf[m] = count;
                    count++;
                } else {
                    numberOf[m] = numberOf[least[m]];
                }
            }
        }
    }

    /** A row of crossings and, once it is surveyed and found to be a diagram, all about it. */
    private static final class Chart {
        final Row row = new Row();
        final Edges edges = new Edges();
        final Groups pieces = new Groups();
        final Groups arcs = new Groups();
        final Rounds components = new Rounds();
        final Rounds seifert = new Rounds();
        final Rounds faces = new Rounds();
        // By turns: faces less crossings of each piece, new labels of edges.
        private final int[] tally = new int[MOST_EDGES];
        int wrong = NOTHING_WRONG;

        /** Answers the document's number of the first thing that is wrong; wrong names it. */
        int survey() {
            wrong = edges.gatherLabels(row);
            if (wrong != NOTHING_WRONG) {
                return NOT_AT_TWO_PLACES;
            }
            wrong = edges.findEnds(row);
            if (wrong != NOTHING_WRONG) {
                return NOT_IN_AND_OUT;
            }
            groupPieces();
            traceFaces();
            wrong = leastCrossingOnNoSphere();
            if (wrong != NOTHING_WRONG) {
                return ON_NO_SPHERE;
            }
            traceStrands();
            groupArcs();
            return A_DIAGRAM;
        }

        private void groupPieces() {
            pieces.begin(row.crossings);
            for (int e = 0; e < edges.count; e++) {
                pieces.join(edges.from[e] / 4, edges.to[e] / 4);
            }
            pieces.numberGroups();
        }

        private void traceFaces() {
            for (int e = 0; e < edges.count; e++) {
                faces.next[2 * e] = edges.dartFrom(Row.beside(edges.to[e]));
                faces.next[2 * e + 1] = edges.dartFrom(Row.beside(edges.from[e]));
            }
            faces.trace(2 * edges.count);
        }

        private int leastCrossingOnNoSphere() {
            Arrays.fill(tally, 0);
            for (int k = 0; k < row.crossings; k++) {
                tally[pieces.numberOf[k]]--;
            }
            for (int f = 0; f < faces.count; f++) {
                int e = faces.first[f] / 2;
                tally[pieces.numberOf[edges.to[e] / 4]]++;
            }
            for (int k = 0; k < row.crossings; k++) {
                if (tally[pieces.numberOf[k]] != 2) {
                    return k;
                }
            }
            return NOTHING_WRONG;
        }

        private void traceStrands() {
            for (int e = 0; e < edges.count; e++) {
                components.next[e] = edges.at[Row.across(edges.to[e])];
                seifert.next[e] = edges.at[row.seifertOut(edges.to[e])];
            }
            components.trace(edges.count);
            seifert.trace(edges.count);
        }

        private void groupArcs() {
            arcs.begin(edges.count);
            for (int e = 0; e < edges.count; e++) {
                if (Row.isUpper(edges.to[e])) {
                    arcs.join(e, components.next[e]);
                }
            }
            arcs.numberGroups();
        }

        int lowerComponent(int k) {
            return components.roundOf[edges.at[4 * k]];
        }

        int upperComponent(int k) {
            return components.roundOf[edges.at[4 * k + 1]];
        }

        int pieceOfComponent(int component) {
            return pieces.numberOf[edges.to[components.first[component]] / 4];
        }

        int sumOfOwnSigns(int component) {
            return sumOfSignsUnder(component, component);
        }

        /** On spheres two components meet an even number of times, so that nothing is cut off. */
        int linking(int one, int other) {
            if (one == other) {
                return 0;
            }
            return (sumOfSignsUnder(one, other) + sumOfSignsUnder(other, one)) / 2;
        }

        private int sumOfSignsUnder(int lower, int upper) {
            int sum = 0;
            for (int k = 0; k < row.crossings; k++) {
                if (lowerComponent(k) == lower && upperComponent(k) == upper) {
                    sum += row.signs[k];
                }
            }
            return sum;
        }

        /** Leaves the survey stale. */
        void turnComponent(int component) {
            for (int k = 0; k < row.crossings; k++) {
                row.turnStrands(k, lowerComponent(k) == component, upperComponent(k) == component);
            }
        }

        /** Leaves the survey stale. */
        void labelAnew() {
            int label = 0;
            for (int c = 0; c < components.count; c++) {
                int e = components.first[c];
                for (int i = 0; i < components.size[c]; i++) {
                    label++;
                    tally[e] = label;
                    e = components.next[e];
                }
            }
            for (int spot = 0; spot < 4 * row.crossings; spot++) {
                row.labels[spot] = tally[edges.at[spot]];
            }
        }
    }
}
