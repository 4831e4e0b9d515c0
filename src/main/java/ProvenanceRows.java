/**
 * Provenance of artefacts: who built each, from which sources, by which tools, needing which
 * others, and when; and the policy that is asked of an artefact and of all that it rests on.
 *
 * <p>Every array has the size of the document's limit and is made once, with the object, so that
 * no call makes anything anew.
 */
public final class ProvenanceRows {
    public static final int NONE = -1;

    private static final int NO_SUCH_ARTEFACT = -2;

    private static final int MOST_SOURCES = 24;
    private static final int MOST_ARTEFACTS = 32;
    private static final int MOST_RULES = 16;
    /** Sources of one artefact, and likewise its needs. */
    private static final int MOST_IN_ROW = 6;
    private static final int PATHS = 8;

    private static final int LAST_BRANCH = 7;
    private static final int LAST_BUILDER = 7;
    private static final int LAST_TOOL = 7;
    private static final int LAST_PERSON = 15;
    private static final int LAST_TIME = 1000000000;
    private static final int LAST_KIND = 9;
    private static final int ALL_PERSONS = 0xFFFF;

    private static final int KIND_BUILDER = 0;
    private static final int KIND_TOOL = 1;
    private static final int KIND_BRANCH = 2;
    private static final int KIND_REVIEWS = 3;
    private static final int KIND_FETCHED = 4;
    private static final int KIND_MISSING = 5;
    private static final int KIND_TIME = 6;
    private static final int KIND_AGREE = 7;
    private static final int KIND_EMPTY = 8;
    private static final int KIND_CLOSURE = 9;

    private final Sources sources;
    private final Artefacts artefacts;
    private final Policy rules;
    private final Closure latestClosure;
    /** Apart from latestClosure, since what at() tells is changed by closure() alone. */
    private final Closure walkedClosure;
    /** Apart from walkedClosure, since a verdict goes along that one while rules count others. */
    private final Closure countedClosure;
    private int latestCulprit;

    public ProvenanceRows() {
        sources = new Sources();
        artefacts = new Artefacts();
        rules = new Policy();
        latestClosure = new Closure();
        walkedClosure = new Closure();
        countedClosure = new Closure();
        latestCulprit = NONE;
    }

    public int source(long digest, int branch, int reviews) {
        if (!isUpTo(branch, LAST_BRANCH)) {
            return NONE;
        }
        return sources.add(digest, branch, reviews & ALL_PERSONS);
    }

    public boolean fetched(int source, boolean told) {
        if (!sources.has(source)) {
            return false;
        }
        sources.fetchedUntold[source] = !told;
        return true;
    }

    public int artefact(long digest, int builder, int tool, int author, int time) {
        boolean builderFits = builder == NONE || isUpTo(builder, LAST_BUILDER);
        if (!builderFits || !isUpTo(tool, LAST_TOOL)) {
            return NONE;
        }
        if (!isUpTo(author, LAST_PERSON) || !isUpTo(time, LAST_TIME)) {
            return NONE;
        }
        return artefacts.add(digest, builder, tool, author, time);
    }

    public boolean uses(int artefact, int source) {
        if (!artefacts.has(artefact) || !sources.has(source)) {
            return false;
        }
        return artefacts.used.append(artefact, source);
    }

    public boolean needs(int artefact, long digest) {
        if (!artefacts.has(artefact)) {
            return false;
        }
        return artefacts.addNeeded(artefact, digest);
    }

    public boolean path(int artefact, int path, long digest) {
        if (!artefacts.has(artefact) || !isUpTo(path, PATHS - 1)) {
            return false;
        }
        artefacts.setPath(artefact, path, digest);
        return true;
    }

    public int policy(int kind, int v) {
        if (!isUpTo(kind, LAST_KIND)) {
            return NONE;
        }
        return rules.add(kind, v);
    }

    public int verdict(int artefact) {
        if (!artefacts.has(artefact)) {
            return NO_SUCH_ARTEFACT;
        }
        walkedClosure.walk(artefacts, artefact);
        for (int k = 0; k < walkedClosure.count; k++) {
            int member = walkedClosure.order[k];
            int rule = firstBrokenBy(member);
            if (rule != NONE) {
                latestCulprit = member;
                return rule;
            }
        }
        return NONE;
    }

    public int culprit() {
        return latestCulprit;
    }

    public boolean breaks(int artefact, int rule) {
        return artefacts.has(artefact) && rules.has(rule) && isBroken(rule, artefact);
    }

    public int closure(int artefact) {
        if (!artefacts.has(artefact)) {
            return NONE;
        }
        latestClosure.walk(artefacts, artefact);
        return latestClosure.count;
    }

    public int at(int i) {
        if (i < 0 || i >= latestClosure.count) {
            return NONE;
        }
        return latestClosure.order[i];
    }

    public int holds(long digest, int i) {
        int found = 0;
        for (int artefact = 0; artefact < artefacts.count; artefact++) {
            if (restsOn(artefact, digest)) {
                if (found == i) {
                    return artefact;
                }
                found++;
            }
        }
        return NONE;
    }

    public int missing(int artefact, int i) {
        if (!artefacts.has(artefact)) {
            return NONE;
        }
        return artefacts.missingPlace(artefact, i);
    }

    public int rebuilt(int a, int b) {
        if (!artefacts.has(a) || !artefacts.has(b)) {
            return NONE;
        }
        int bits = 0;
        for (int path = 0; path < PATHS; path++) {
            bits |= bitIf(artefacts.differAtPath(a, b, path), path);
        }
        return bits;
    }

    public int differ(int a, int b) {
        if (!artefacts.has(a) || !artefacts.has(b)) {
            return NONE;
        }
        return bitIf(artefacts.digests[a] != artefacts.digests[b], 0)
                | bitIf(artefacts.builders[a] != artefacts.builders[b], 1)
                | bitIf(artefacts.tools[a] != artefacts.tools[b], 2)
                | bitIf(artefacts.authors[a] != artefacts.authors[b], 3)
                | bitIf(artefacts.times[a] != artefacts.times[b], 4)
                | bitIf(!artefacts.used.sameAsSets(a, b), 5)
                | bitIf(!artefacts.needed.sameAsSets(a, b), 6);
    }

    public int clash(int i, int side) {
        if (side != 0 && side != 1) {
            return NONE;
        }
        int found = 0;
        for (int lesser = 0; lesser < artefacts.count; lesser++) {
            for (int greater = lesser + 1; greater < artefacts.count; greater++) {
                if (artefacts.clashing(lesser, greater)) {
                    if (found == i) {
                        return side == 0 ? lesser : greater;
                    }
                    found++;
                }
            }
        }
        return NONE;
    }

    private static boolean isUpTo(int value, int last) {
        return value >= 0 && value <= last;
    }

    /** A place below 0 (an unknown builder) is no bit of any value. */
    private static boolean hasBit(int bits, int place) {
        return place >= 0 && (bits >>> place & 1) != 0;
    }

    private static int bitIf(boolean set, int place) {
        return set ? 1 << place : 0;
    }

    private int firstBrokenBy(int artefact) {
        for (int rule = 0; rule < rules.count; rule++) {
            if (isBroken(rule, artefact)) {
                return rule;
            }
        }
        return NONE;
    }

    private boolean isBroken(int rule, int artefact) {
        int v = rules.values[rule];
        switch (rules.kinds[rule]) {
            case KIND_BUILDER:
                return !hasBit(v, artefacts.builders[artefact]);
            case KIND_TOOL:
                return !hasBit(v, artefacts.tools[artefact]);
            case KIND_BRANCH:
                return usesBranchOutside(artefact, v);
            case KIND_REVIEWS:
                return usesReviewedBelow(artefact, v);
            case KIND_FETCHED:
                return usesFetchedUntold(artefact);
            case KIND_MISSING:
                return artefacts.missingPlace(artefact, 0) != NONE;
            case KIND_TIME:
                return artefacts.needsLaterBy(artefact, v);
            case KIND_AGREE:
                return artefacts.clashesWithAny(artefact);
            case KIND_EMPTY:
                return artefacts.restsOnNothing(artefact);
            case KIND_CLOSURE:
                countedClosure.walk(artefacts, artefact);
                return countedClosure.count > v;
            default:
                return false;
        }
    }

    private boolean usesBranchOutside(int artefact, int branches) {
        for (int k = 0; k < artefacts.used.counts[artefact]; k++) {
            if (!hasBit(branches, sources.branches[artefacts.usedAt(artefact, k)])) {
                return true;
            }
        }
        return false;
    }

    private boolean usesReviewedBelow(int artefact, int least) {
        int others = ~(1 << artefacts.authors[artefact]);
        for (int k = 0; k < artefacts.used.counts[artefact]; k++) {
            int reviews = sources.reviews[artefacts.usedAt(artefact, k)];
            if (Integer.bitCount(reviews & others) < least) {
                return true;
            }
        }
        return false;
    }

    private boolean usesFetchedUntold(int artefact) {
        for (int k = 0; k < artefacts.used.counts[artefact]; k++) {
            if (sources.fetchedUntold[artefacts.usedAt(artefact, k)]) {
                return true;
            }
        }
        return false;
    }

    private boolean restsOn(int artefact, long digest) {
        walkedClosure.walk(artefacts, artefact);
        for (int k = 0; k < walkedClosure.count; k++) {
            if (usesDigest(walkedClosure.order[k], digest)) {
                return true;
            }
        }
        return false;
    }

    private boolean usesDigest(int artefact, long digest) {
        for (int k = 0; k < artefacts.used.counts[artefact]; k++) {
            if (sources.digests[artefacts.usedAt(artefact, k)] == digest) {
                return true;
            }
        }
        return false;
    }

    /** The sources by number. Whoever reads a row has asked has() for its number. */
    private static final class Sources {
        int count;
        final long[] digests = new long[MOST_SOURCES];
        final int[] branches = new int[MOST_SOURCES];
        final int[] reviews = new int[MOST_SOURCES];
        /** A source that was fetched with its digest told counts in no rule, so this is all. */
        final boolean[] fetchedUntold = new boolean[MOST_SOURCES];

        boolean has(int source) {
            return source >= 0 && source < count;
        }

        int add(long digest, int branch, int reviewers) {
            if (count >= MOST_SOURCES) {
                return NONE;
            }
            int source = count;
            digests[source] = digest;
            branches[source] = branch;
            reviews[source] = reviewers;
            count++;
            return source;
        }
    }

    /** The artefacts by number. Whoever reads a row has asked has() for its number. */
    private static final class Artefacts {
        int count;
        final long[] digests = new long[MOST_ARTEFACTS];
        final int[] builders = new int[MOST_ARTEFACTS];
        final int[] tools = new int[MOST_ARTEFACTS];
        final int[] authors = new int[MOST_ARTEFACTS];
        final int[] times = new int[MOST_ARTEFACTS];
        final Rows used = new Rows();
        final Rows needed = new Rows();
        /** Beside each need what meets it, or NONE: closures would search for it too often. */
        private final int[] metBy = new int[MOST_ARTEFACTS * MOST_IN_ROW];
        private final int[] pathBits = new int[MOST_ARTEFACTS];
        private final long[] pathDigests = new long[MOST_ARTEFACTS * PATHS];

        boolean has(int artefact) {
            return artefact >= 0 && artefact < count;
        }

        int add(long digest, int builder, int tool, int author, int time) {
            if (count >= MOST_ARTEFACTS) {
                return NONE;
            }
            int artefact = count;
            digests[artefact] = digest;
            builders[artefact] = builder;
            tools[artefact] = tool;
            authors[artefact] = author;
            times[artefact] = time;
            count++;
            meetMissing(artefact);
            return artefact;
        }

        /** Needs that are met already stay so: the artefact that came first meets them. */
        private void meetMissing(int newcomer) {
            for (int artefact = 0; artefact < count; artefact++) {
                for (int k = 0; k < needed.counts[artefact]; k++) {
                    boolean fits = needed.valueAt(artefact, k) == digests[newcomer];
                    if (fits && metByAt(artefact, k) == NONE) {
                        metBy[artefact * MOST_IN_ROW + k] = newcomer;
                    }
                }
            }
        }

        boolean addNeeded(int artefact, long digest) {
            int place = needed.counts[artefact];
            if (!needed.append(artefact, digest)) {
                return false;
            }
            metBy[artefact * MOST_IN_ROW + place] = firstOf(digest);
            return true;
        }

        private int firstOf(long digest) {
            for (int artefact = 0; artefact < count; artefact++) {
                if (digests[artefact] == digest) {
                    return artefact;
                }
            }
            return NONE;
        }

        int metByAt(int artefact, int k) {
            return metBy[artefact * MOST_IN_ROW + k];
        }

        /** Loses nothing: what used holds are the numbers of sources, which are ints. */
        int usedAt(int artefact, int k) {
            return (int) used.valueAt(artefact, k);
        }

        int missingPlace(int artefact, int i) {
            int found = 0;
            for (int k = 0; k < needed.counts[artefact]; k++) {
                if (metByAt(artefact, k) == NONE) {
                    if (found == i) {
                        return k;
                    }
                    found++;
                }
            }
            return NONE;
        }

        /** Times lie in 0 .. LAST_TIME, so that their difference never wraps around. */
        boolean needsLaterBy(int artefact, int v) {
            for (int k = 0; k < needed.counts[artefact]; k++) {
                int other = metByAt(artefact, k);
                if (other != NONE && times[other] - times[artefact] > v) {
                    return true;
                }
            }
            return false;
        }

        boolean restsOnNothing(int artefact) {
            return used.counts[artefact] == 0 && needed.counts[artefact] == 0;
        }

        boolean clashesWithAny(int artefact) {
            for (int other = 0; other < count; other++) {
                if (clashing(artefact, other)) {
                    return true;
                }
            }
            return false;
        }

        /** An artefact agrees with itself, so it never clashes with itself either. */
        boolean clashing(int a, int b) {
            if (digests[a] != digests[b]) {
                return false;
            }
            boolean agree = builders[a] == builders[b]
                    && tools[a] == tools[b]
                    && used.sameInOrder(a, b)
                    && needed.sameInOrder(a, b);
            return !agree;
        }

        void setPath(int artefact, int path, long digest) {
            pathBits[artefact] |= 1 << path;
            pathDigests[artefact * PATHS + path] = digest;
        }

        /** The bits count too: 0 stands for no digest here, but may also be a digest. */
        boolean differAtPath(int a, int b, int path) {
            return hasBit(pathBits[a], path) != hasBit(pathBits[b], path)
                    || pathDigests[a * PATHS + path] != pathDigests[b * PATHS + path];
        }
    }

    /** A short row of values for each artefact, none of them twice in one row. */
    private static final class Rows {
        final int[] counts = new int[MOST_ARTEFACTS];
        private final long[] values = new long[MOST_ARTEFACTS * MOST_IN_ROW];

        long valueAt(int row, int k) {
            return values[row * MOST_IN_ROW + k];
        }

        boolean append(int row, long value) {
            if (counts[row] >= MOST_IN_ROW || contains(row, value)) {
                return false;
            }
            values[row * MOST_IN_ROW + counts[row]] = value;
            counts[row]++;
            return true;
        }

        private boolean contains(int row, long value) {
            for (int k = 0; k < counts[row]; k++) {
                if (valueAt(row, k) == value) {
                    return true;
                }
            }
            return false;
        }

        boolean sameInOrder(int a, int b) {
            if (counts[a] != counts[b]) {
                return false;
            }
            for (int k = 0; k < counts[a]; k++) {
                if (valueAt(a, k) != valueAt(b, k)) {
                    return false;
                }
            }
            return true;
        }

        /** No value stands twice in a row, so equal counts and one inclusion are enough. */
        boolean sameAsSets(int a, int b) {
            if (counts[a] != counts[b]) {
                return false;
            }
            for (int k = 0; k < counts[a]; k++) {
                if (!contains(b, valueAt(a, k))) {
                    return false;
                }
            }
            return true;
        }
    }

    /** The rules by place. Whoever reads one has asked has() for its place. */
    private static final class Policy {
        int count;
        final int[] kinds = new int[MOST_RULES];
        final int[] values = new int[MOST_RULES];

        boolean has(int rule) {
            return rule >= 0 && rule < count;
        }

        int add(int kind, int value) {
            if (count >= MOST_RULES) {
                return NONE;
            }
            int rule = count;
            kinds[rule] = kind;
            values[rule] = value;
            count++;
            return rule;
        }
    }

    /** The artefacts that one rests on, itself first, as they were when it was last walked. */
    private static final class Closure {
        int count;
        final int[] order = new int[MOST_ARTEFACTS];
        /** A bit for each artefact's number: 32 artefacts are just what an int has room for. */
        private int reached;

        /** Rounds one after another are the same as one queue that is gone along once. */
        void walk(Artefacts artefacts, int start) {
            count = 0;
            reached = 0;
            reach(start);
            for (int next = 0; next < MOST_ARTEFACTS && next < count; next++) {
                int artefact = order[next];
                for (int k = 0; k < artefacts.needed.counts[artefact]; k++) {
                    reach(artefacts.metByAt(artefact, k));
                }
            }
        }

        private void reach(int artefact) {
            if (artefact == NONE || hasBit(reached, artefact) || count >= MOST_ARTEFACTS) {
                return;
            }
            reached |= 1 << artefact;
            order[count] = artefact;
            count++;
        }
    }
}
