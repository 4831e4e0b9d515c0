import java.util.Random;

/**
 * Runs of 512 calls, the same ones each time, asked of the class and of the plain model. Small
 * numbers come often, so that digests meet and rows fill up; wild ones come now and then.
 */
public final class RandomRunsTest {
    private static final Check CHECK = new Check();
    private static final int RUNS = 3000;
    private static final int CALLS = 512;

    private final Random random;
    private final ProvenanceRows x = new ProvenanceRows();
    private final PlainModel y = new PlainModel();
    /** How many digests there are: few make clashes and rings, many make needs go unmet. */
    private final int digests;
    /** How many artefacts the calls speak of: few fill their rows, many make long closures. */
    private final int numbers;
    private final int wildness;

    private RandomRunsTest(long seed) {
        random = new Random(seed);
        digests = 2 + random.nextInt(40);
        numbers = 2 + random.nextInt(34);
        wildness = 10 + random.nextInt(200);
    }

    public static void main(String[] args) {
        for (long seed = 0; seed < RUNS && CHECK.allRight(); seed++) {
            RandomRunsTest run = new RandomRunsTest(seed);
            for (int call = 0; call < CALLS; call++) {
                run.oneCall("run " + seed + ", call " + call + ": ");
            }
        }
        CHECK.end();
    }

    private int number(int below) {
        if (random.nextInt(wildness) == 0) {
            int[] wild = {
                -1, -2, below, below + 1, 31, 32, 1 << 16, Integer.MIN_VALUE, Integer.MAX_VALUE};
            return wild[random.nextInt(wild.length)];
        }
        return random.nextInt(below);
    }

    private long digest() {
        long small = random.nextInt(digests);
        return random.nextInt(wildness) == 0 ? small << 32 : small - 1;
    }

    private int time() {
        return random.nextInt(4) == 0 ? number(1000000001) : number(20);
    }

    /** A value that each kind of rule is now broken by, now not. */
    private int value(int kind) {
        return switch (kind) {
            case 0, 1, 2 -> random.nextInt(4) == 0 ? number(256) : 255 ^ 1 << random.nextInt(8);
            case 3 -> number(8);
            case 6 -> number(30) - 10;
            default -> number(33);
        };
    }

    private void oneCall(String where) {
        if (random.nextInt(3) == 0) {
            ask(where);
        } else {
            tell(where);
        }
    }

    private void tell(String where) {
        int a = number(numbers);
        long d = digest();
        switch (random.nextInt(16)) {
            case 0 -> {
                int branch = number(8);
                int reviews = random.nextInt();
                CHECK.due(where + "source",
                        x.source(d, branch, reviews), y.source(d, branch, reviews));
            }
            case 1 -> {
                int source = number(24);
                boolean told = random.nextBoolean();
                CHECK.due(where + "fetched", x.fetched(source, told), y.fetched(source, told));
            }
            case 2, 3 -> {
                int builder = number(3) - 1;
                int tool = number(random.nextBoolean() ? 8 : 2);
                int author = number(16);
                int time = time();
                CHECK.due(where + "artefact", x.artefact(d, builder, tool, author, time),
                        y.artefact(d, builder, tool, author, time));
            }
            case 4, 5, 6, 7, 8 -> {
                int source = number(24);
                CHECK.due(where + "uses", x.uses(a, source), y.uses(a, source));
            }
            case 9, 10, 11, 12, 13 -> CHECK.due(where + "needs", x.needs(a, d), y.needs(a, d));
            case 14 -> {
                int path = number(8);
                CHECK.due(where + "path", x.path(a, path, d), y.path(a, path, d));
            }
            default -> {
                int kind = number(10);
                int v = value(kind);
                if (random.nextInt(3) == 0) {
                    CHECK.due(where + "policy", x.policy(kind, v), y.policy(kind, v));
                }
            }
        }
    }

    private void ask(String where) {
        int a = number(numbers);
        int b = number(numbers);
        long d = digest();
        switch (random.nextInt(11)) {
            case 0 -> CHECK.due(where + "verdict", x.verdict(a), y.verdict(a));
            case 1 -> CHECK.due(where + "culprit", x.culprit(), y.culprit());
            case 2, 3 -> CHECK.due(where + "breaks", x.breaks(a, b % 17), y.breaks(a, b % 17));
            case 4 -> CHECK.due(where + "closure", x.closure(a), y.closure(a));
            case 5 -> CHECK.due(where + "at", x.at(b), y.at(b));
            case 6 -> CHECK.due(where + "holds", x.holds(d, b), y.holds(d, b));
            case 7 -> CHECK.due(where + "missing", x.missing(a, b % 7), y.missing(a, b % 7));
            case 8 -> CHECK.due(where + "rebuilt", x.rebuilt(a, b), y.rebuilt(a, b));
            case 9 -> CHECK.due(where + "differ", x.differ(a, b), y.differ(a, b));
            default -> {
                int side = number(2);
                CHECK.due(where + "clash", x.clash(b, side), y.clash(b, side));
            }
        }
    }
}
