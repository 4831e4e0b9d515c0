import java.util.ArrayList;
import java.util.HashSet;
import java.util.List;
import java.util.Objects;

/**
 * The document once more, word by word and with the Java library, keeping nothing that could be
 * worked out anew: it shares no way of working with the class, so that faults are not shared.
 */
final class PlainModel {
    record Rule(int kind, int v) {}

    static final class Source {
        long digest;
        int branch;
        int reviews;
        boolean fetched;
        boolean told;
    }

    static final class Artefact {
        long digest;
        int builder;
        int tool;
        int author;
        int time;
        final List<Integer> sources = new ArrayList<>();
        final List<Long> needs = new ArrayList<>();
        final Long[] paths = new Long[8];
    }

    private final List<Source> sources = new ArrayList<>();
    private final List<Artefact> artefacts = new ArrayList<>();
    private final List<Rule> rules = new ArrayList<>();
    private List<Integer> latest = List.of();
    private int culprit = -1;

    int source(long digest, int branch, int reviews) {
        if (sources.size() == 24 || branch < 0 || branch > 7) {
            return -1;
        }
        Source s = new Source();
        s.digest = digest;
        s.branch = branch;
        s.reviews = reviews;
        sources.add(s);
        return sources.size() - 1;
    }

    boolean fetched(int source, boolean told) {
        if (none(sources, source)) {
            return false;
        }
        sources.get(source).fetched = true;
        sources.get(source).told = told;
        return true;
    }

    int artefact(long digest, int builder, int tool, int author, int time) {
        boolean asTold = builder >= -1 && builder <= 7 && tool >= 0 && tool <= 7
                && author >= 0 && author <= 15 && time >= 0 && time <= 1000000000;
        if (artefacts.size() == 32 || !asTold) {
            return -1;
        }
        Artefact a = new Artefact();
        a.digest = digest;
        a.builder = builder;
        a.tool = tool;
        a.author = author;
        a.time = time;
        artefacts.add(a);
        return artefacts.size() - 1;
    }

    boolean uses(int artefact, int source) {
        if (none(artefacts, artefact) || none(sources, source)) {
            return false;
        }
        List<Integer> row = artefacts.get(artefact).sources;
        return row.size() < 6 && !row.contains(source) && row.add(source);
    }

    boolean needs(int artefact, long digest) {
        if (none(artefacts, artefact)) {
            return false;
        }
        List<Long> row = artefacts.get(artefact).needs;
        return row.size() < 6 && !row.contains(digest) && row.add(digest);
    }

    boolean path(int artefact, int path, long digest) {
        if (none(artefacts, artefact) || path < 0 || path > 7) {
            return false;
        }
        artefacts.get(artefact).paths[path] = digest;
        return true;
    }

    int policy(int kind, int v) {
        if (rules.size() == 16 || kind < 0 || kind > 9) {
            return -1;
        }
        rules.add(new Rule(kind, v));
        return rules.size() - 1;
    }

    int verdict(int artefact) {
        if (none(artefacts, artefact)) {
            return -2;
        }
        for (int member : closureOf(artefact)) {
            for (int rule = 0; rule < rules.size(); rule++) {
                if (breaks(member, rule)) {
                    culprit = member;
                    return rule;
                }
            }
        }
        return -1;
    }

    int culprit() {
        return culprit;
    }

    boolean breaks(int artefact, int rule) {
        if (none(artefacts, artefact) || none(rules, rule)) {
            return false;
        }
        Artefact a = artefacts.get(artefact);
        int v = rules.get(rule).v();
        return switch (rules.get(rule).kind()) {
            case 0 -> a.builder == -1 || (v & 1 << a.builder) == 0;
            case 1 -> (v & 1 << a.tool) == 0;
            case 2 -> a.sources.stream().anyMatch(s -> (v & 1 << sources.get(s).branch) == 0);
            case 3 -> a.sources.stream().anyMatch(
                    s -> reviewsByOthers(sources.get(s), a.author) < v);
            case 4 -> a.sources.stream().anyMatch(
                    s -> sources.get(s).fetched && !sources.get(s).told);
            case 5 -> a.needs.stream().anyMatch(d -> firstOf(d) == -1);
            case 6 -> a.needs.stream().anyMatch(
                    d -> firstOf(d) != -1 && (long) artefacts.get(firstOf(d)).time - a.time > v);
            case 7 -> artefacts.stream().anyMatch(b -> b.digest == a.digest && !agree(a, b));
            case 8 -> a.sources.isEmpty() && a.needs.isEmpty();
            default -> closureOf(artefact).size() > v;
        };
    }

    int closure(int artefact) {
        if (none(artefacts, artefact)) {
            return -1;
        }
        latest = closureOf(artefact);
        return latest.size();
    }

    int at(int i) {
        return none(latest, i) ? -1 : latest.get(i);
    }

    int holds(long digest, int i) {
        List<Integer> found = new ArrayList<>();
        for (int a = 0; a < artefacts.size(); a++) {
            if (closureOf(a).stream().flatMap(b -> artefacts.get(b).sources.stream())
                    .anyMatch(s -> sources.get(s).digest == digest)) {
                found.add(a);
            }
        }
        return none(found, i) ? -1 : found.get(i);
    }

    int missing(int artefact, int i) {
        if (none(artefacts, artefact)) {
            return -1;
        }
        List<Long> needs = artefacts.get(artefact).needs;
        List<Integer> places = new ArrayList<>();
        for (int k = 0; k < needs.size(); k++) {
            if (firstOf(needs.get(k)) == -1) {
                places.add(k);
            }
        }
        return none(places, i) ? -1 : places.get(i);
    }

    int rebuilt(int a, int b) {
        if (none(artefacts, a) || none(artefacts, b)) {
            return -1;
        }
        int bits = 0;
        for (int path = 0; path < 8; path++) {
            Long here = artefacts.get(a).paths[path];
            Long there = artefacts.get(b).paths[path];
            bits += Objects.equals(here, there) ? 0 : 1 << path;
        }
        return bits;
    }

    int differ(int a, int b) {
        if (none(artefacts, a) || none(artefacts, b)) {
            return -1;
        }
        Artefact p = artefacts.get(a);
        Artefact q = artefacts.get(b);
        boolean[] other = {p.digest != q.digest, p.builder != q.builder, p.tool != q.tool,
            p.author != q.author, p.time != q.time,
            !new HashSet<>(p.sources).equals(new HashSet<>(q.sources)),
            !new HashSet<>(p.needs).equals(new HashSet<>(q.needs))};
        int bits = 0;
        for (int k = 0; k < other.length; k++) {
            bits += other[k] ? 1 << k : 0;
        }
        return bits;
    }

    int clash(int i, int side) {
        List<int[]> pairs = new ArrayList<>();
        for (int a = 0; a < artefacts.size(); a++) {
            for (int b = a + 1; b < artefacts.size(); b++) {
                if (artefacts.get(a).digest == artefacts.get(b).digest
                        && !agree(artefacts.get(a), artefacts.get(b))) {
                    pairs.add(new int[] {a, b});
                }
            }
        }
        return none(pairs, i) || side < 0 || side > 1 ? -1 : pairs.get(i)[side];
    }

    private static boolean none(List<?> list, int i) {
        return i < 0 || i >= list.size();
    }

    private static boolean agree(Artefact a, Artefact b) {
        return a.builder == b.builder && a.tool == b.tool
                && a.sources.equals(b.sources) && a.needs.equals(b.needs);
    }

    private static int reviewsByOthers(Source s, int author) {
        int count = 0;
        for (int person = 0; person < 16; person++) {
            count += person != author && (s.reviews & 1 << person) != 0 ? 1 : 0;
        }
        return count;
    }

    private int firstOf(long digest) {
        for (int a = 0; a < artefacts.size(); a++) {
            if (artefacts.get(a).digest == digest) {
                return a;
            }
        }
        return -1;
    }

    private List<Integer> closureOf(int artefact) {
        List<Integer> all = new ArrayList<>(List.of(artefact));
        List<Integer> round = List.of(artefact);
        while (!round.isEmpty()) {
            List<Integer> next = new ArrayList<>();
            for (int a : round) {
                for (long digest : artefacts.get(a).needs) {
                    int met = firstOf(digest);
                    if (met != -1 && !all.contains(met)) {
                        all.add(met);
                        next.add(met);
                    }
                }
            }
            round = next;
        }
        return all;
    }
}
