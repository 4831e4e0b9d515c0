import java.util.ArrayList;
import java.util.LinkedHashMap;
import java.util.List;
import java.util.Map;
import java.util.Set;
import java.util.function.Function;
import java.util.function.Supplier;

/**
 * What a call leaves as it was: all of it, if the call is refused or only asks; all but what its
 * promise says, if it is taken. The same object is made twice, with and without the call, and then
 * asked for everything that the face tells.
 */
public final class LeftAsItWasTest {
    private static final Check CHECK = new Check();
    private static final int NONE = ProvenanceRows.NONE;
    private static final long[] DIGESTS = {10, 20, 30, 40, 99, 100, 200, 300, 1000, 1031};

    private final String name;
    private final Supplier<ProvenanceRows> maker;
    private final int[] artefacts;
    private final Map<String, Object> before;

    private LeftAsItWasTest(String name, Supplier<ProvenanceRows> maker, int... artefacts) {
        this.name = name;
        this.maker = maker;
        this.artefacts = artefacts;
        before = allAnswersAfter(x -> null);
    }

    public static void main(String[] args) {
        refusedByANewOne();
        LeftAsItWasTest some = new LeftAsItWasTest("some", LeftAsItWasTest::some, 0, 1, 2, 3, 4);
        refusedTells(some);
        refusedAsks(some);
        asksThatAreAnswered(some);
        asksThatAreKept(some);
        verdictThatFindsNothing();
        tellsThatAreTaken(some);
        refusedByAFullOne();
        CHECK.end();
    }

    /** Every kind of rule, a ring, a missing need, a clash, paths, a closure and a culprit. */
    private static ProvenanceRows some() {
        ProvenanceRows x = new ProvenanceRows();
        x.source(100, 1, 7);
        x.source(200, 3, 1);
        x.source(100, 0, 65535);
        x.fetched(1, false);
        x.fetched(2, true);
        x.artefact(10, 2, 1, 0, 50);
        x.artefact(20, 3, 1, 2, 60);
        x.artefact(30, NONE, 2, 1, 55);
        x.artefact(20, 3, 1, 2, 61);
        x.artefact(40, 0, 0, 0, 0);
        x.uses(0, 0);
        x.uses(1, 1);
        x.uses(2, 2);
        x.uses(3, 1);
        x.needs(0, 30);
        x.needs(1, 10);
        x.needs(2, 20);
        x.needs(2, 99);
        x.path(0, 3, 11);
        x.path(1, 3, 12);
        x.path(1, 7, 0);
        int[] values = {12, 2, 2, 2, 0, 0, 4, 0, 0, 2};
        for (int kind = 0; kind < values.length; kind++) {
            x.policy(kind, values[kind]);
        }
        x.closure(1);
        x.verdict(2);
        return x;
    }

    /** As many of everything as fits, artefact 31 resting on artefact 0. */
    private static ProvenanceRows full() {
        ProvenanceRows x = Check.with(32, 24);
        for (int k = 0; k < 6; k++) {
            x.uses(0, k);
            x.needs(31, 1000 + k);
        }
        for (int place = 0; place < 16; place++) {
            x.policy(place % 10, place);
        }
        x.closure(31);
        x.verdict(31);
        return x;
    }

    /** Two objects, each for a part of the questions, so that none gets more than 512 calls. */
    private Map<String, Object> allAnswersAfter(Function<ProvenanceRows, Object> call) {
        Map<String, Object> answers = new LinkedHashMap<>();
        ProvenanceRows x = maker.get();
        call.apply(x);
        askWhatWasKept(x, answers);
        askOfEach(x, answers);
        askForNextNumbers(x, answers);
        x = maker.get();
        call.apply(x);
        askOfPairs(x, answers);
        askOfRules(x, answers);
        return answers;
    }

    private static void askWhatWasKept(ProvenanceRows x, Map<String, Object> answers) {
        for (int i = -1; i < 8; i++) {
            answers.put("at(" + i + ")", x.at(i));
        }
        answers.put("culprit()", x.culprit());
    }

    private void askOfEach(ProvenanceRows x, Map<String, Object> answers) {
        for (int a : artefacts) {
            answers.put("closure(" + a + ")", wholeClosure(x, a));
            answers.put("verdict(" + a + ")", x.verdict(a) + " by " + x.culprit());
            for (int i = 0; i < 7; i++) {
                answers.put("missing(" + a + ", " + i + ")", x.missing(a, i));
            }
        }
        for (long digest : DIGESTS) {
            for (int i = 0; i < 4; i++) {
                answers.put("holds(" + digest + ", " + i + ")", x.holds(digest, i));
            }
        }
    }

    private static List<Integer> wholeClosure(ProvenanceRows x, int artefact) {
        List<Integer> members = new ArrayList<>();
        int count = x.closure(artefact);
        for (int i = 0; i < count; i++) {
            members.add(x.at(i));
        }
        return members;
    }

    /** Last, since these calls tell something themselves. */
    private static void askForNextNumbers(ProvenanceRows x, Map<String, Object> answers) {
        answers.put("source, the next one", x.source(300, 0, 0));
        answers.put("artefact, the next one", x.artefact(50, 0, 0, 0, 0));
        answers.put("policy, the next one", x.policy(0, 0));
    }

    private void askOfPairs(ProvenanceRows x, Map<String, Object> answers) {
        for (int a : artefacts) {
            for (int b : artefacts) {
                answers.put("rebuilt(" + a + ", " + b + ")", x.rebuilt(a, b));
                answers.put("differ(" + a + ", " + b + ")", x.differ(a, b));
            }
        }
        for (int i = 0; i < 4; i++) {
            answers.put("clash(" + i + ")", x.clash(i, 0) + " and " + x.clash(i, 1));
        }
    }

    private void askOfRules(ProvenanceRows x, Map<String, Object> answers) {
        for (int a : artefacts) {
            for (int rule = 0; rule < 16; rule++) {
                answers.put("breaks(" + a + ", " + rule + ")", x.breaks(a, rule));
            }
        }
    }

    /** The call's answer, and that nothing is changed but answers of these methods. */
    private void due(String call, Function<ProvenanceRows, Object> made, Object want,
            String... changed) {
        CHECK.about(name + ", " + call);
        Object got = made.apply(maker.get());
        CHECK.due("the answer " + got + " being " + want, got.equals(want), true);
        Set<String> mayChange = Set.of(changed);
        Map<String, Object> after = allAnswersAfter(made);
        boolean anyChange = false;
        for (String question : before.keySet()) {
            boolean same = before.get(question).equals(after.get(question));
            boolean free = mayChange.contains(question.split("[(,]")[0]);
            anyChange |= !same;
            CHECK.due(question + " from " + before.get(question) + " to " + after.get(question),
                    !same && !free, false);
        }
        CHECK.due("a change", anyChange, changed.length > 0);
    }

    private static void refusedByANewOne() {
        LeftAsItWasTest none = new LeftAsItWasTest("new", ProvenanceRows::new, 0, 1, 31);
        none.due("fetched(0, false)", x -> x.fetched(0, false), false);
        none.due("fetched(0, true)", x -> x.fetched(0, true), false);
        none.due("uses(0, 0)", x -> x.uses(0, 0), false);
        none.due("needs(0, 0)", x -> x.needs(0, 0), false);
        none.due("path(0, 0, 0)", x -> x.path(0, 0, 0), false);
        none.due("verdict(0)", x -> x.verdict(0), -2);
        none.due("culprit()", x -> x.culprit(), NONE);
        none.due("breaks(0, 0)", x -> x.breaks(0, 0), false);
        none.due("closure(0)", x -> x.closure(0), NONE);
        none.due("at(0)", x -> x.at(0), NONE);
        none.due("holds(0, 0)", x -> x.holds(0, 0), NONE);
        none.due("missing(0, 0)", x -> x.missing(0, 0), NONE);
        none.due("rebuilt(0, 0)", x -> x.rebuilt(0, 0), NONE);
        none.due("differ(0, 0)", x -> x.differ(0, 0), NONE);
        none.due("clash(0, 0)", x -> x.clash(0, 0), NONE);
    }

    private static void refusedTells(LeftAsItWasTest some) {
        for (int wrong : Check.outside(0, 7)) {
            some.due("source, branch " + wrong, x -> x.source(100, wrong, 1), NONE);
            some.due("artefact, tool " + wrong, x -> x.artefact(99, 0, wrong, 0, 0), NONE);
            some.due("path(0, " + wrong + ")", x -> x.path(0, wrong, 5), false);
        }
        for (int wrong : Check.outside(NONE, 7)) {
            some.due("artefact, builder " + wrong, x -> x.artefact(99, wrong, 0, 0, 0), NONE);
        }
        for (int wrong : Check.outside(0, 15)) {
            some.due("artefact, author " + wrong, x -> x.artefact(99, 0, 0, wrong, 0), NONE);
        }
        for (int wrong : Check.outside(0, 1000000000)) {
            some.due("artefact, time " + wrong, x -> x.artefact(99, 0, 0, 0, wrong), NONE);
        }
        for (int wrong : Check.outside(0, 2)) {
            some.due("fetched(" + wrong + ", false)", x -> x.fetched(wrong, false), false);
            some.due("uses(0, " + wrong + ")", x -> x.uses(0, wrong), false);
        }
        for (int wrong : Check.outside(0, 4)) {
            some.due("uses(" + wrong + ", 2)", x -> x.uses(wrong, 2), false);
            some.due("needs(" + wrong + ", 40)", x -> x.needs(wrong, 40), false);
            some.due("path(" + wrong + ", 0)", x -> x.path(wrong, 0, 5), false);
        }
        for (int wrong : Check.outside(0, 9)) {
            some.due("policy(" + wrong + ", 0)", x -> x.policy(wrong, 0), NONE);
        }
        some.due("uses(0, 0), there already", x -> x.uses(0, 0), false);
        some.due("needs(2, 20), there already", x -> x.needs(2, 20), false);
        some.due("needs(2, 99), there already", x -> x.needs(2, 99), false);
    }

    private static void refusedAsks(LeftAsItWasTest some) {
        for (int wrong : Check.outside(0, 4)) {
            some.due("verdict(" + wrong + ")", x -> x.verdict(wrong), -2);
            some.due("closure(" + wrong + ")", x -> x.closure(wrong), NONE);
            some.due("breaks(" + wrong + ", 8)", x -> x.breaks(wrong, 8), false);
            some.due("missing(" + wrong + ", 0)", x -> x.missing(wrong, 0), NONE);
            some.due("rebuilt(" + wrong + ", 0)", x -> x.rebuilt(wrong, 0), NONE);
            some.due("rebuilt(0, " + wrong + ")", x -> x.rebuilt(0, wrong), NONE);
            some.due("differ(" + wrong + ", 0)", x -> x.differ(wrong, 0), NONE);
            some.due("differ(0, " + wrong + ")", x -> x.differ(0, wrong), NONE);
            some.due("at(" + wrong + ")", x -> x.at(wrong), NONE);
            some.due("holds(200, " + wrong + ")", x -> x.holds(200, wrong), NONE);
        }
        for (int wrong : Check.outside(0, 9)) {
            some.due("breaks(4, " + wrong + ")", x -> x.breaks(4, wrong), false);
        }
        for (int wrong : Check.outside(0, 0)) {
            some.due("missing(2, " + wrong + ")", x -> x.missing(2, wrong), NONE);
            some.due("clash(" + wrong + ", 0)", x -> x.clash(wrong, 0), NONE);
        }
        for (int wrong : Check.outside(0, 1)) {
            some.due("clash(0, " + wrong + ")", x -> x.clash(0, wrong), NONE);
        }
        some.due("holds(7, 0)", x -> x.holds(7, 0), NONE);
    }

    private static void asksThatAreAnswered(LeftAsItWasTest some) {
        some.due("culprit()", x -> x.culprit(), 2);
        some.due("breaks(0, 9)", x -> x.breaks(0, 9), true);
        some.due("breaks(0, 0)", x -> x.breaks(0, 0), false);
        some.due("at(0)", x -> x.at(0), 1);
        some.due("holds(100, 2)", x -> x.holds(100, 2), 2);
        some.due("missing(2, 0)", x -> x.missing(2, 0), 1);
        some.due("rebuilt(0, 1)", x -> x.rebuilt(0, 1), 8 + 128);
        some.due("differ(0, 1)", x -> x.differ(0, 1), 127 - 4);
        some.due("clash(0, 0)", x -> x.clash(0, 0), 1);
        some.due("clash(0, 1)", x -> x.clash(0, 1), 3);
    }

    /** Each of the two changes what one other method tells, and no more. */
    private static void asksThatAreKept(LeftAsItWasTest some) {
        some.due("closure(2)", x -> x.closure(2), 3, "at");
        some.due("closure(4)", x -> x.closure(4), 1, "at");
        some.due("verdict(4)", x -> x.verdict(4), 0, "culprit");
        some.due("verdict(1)", x -> x.verdict(1), 2, "culprit");
    }

    /** Artefact 0 breaks the rule, artefact 1 doesn't, and nothing else was asked since. */
    private static ProvenanceRows halfBroken() {
        ProvenanceRows x = Check.with(2, 1);
        x.uses(1, 0);
        x.policy(8, 0);
        x.closure(1);
        x.verdict(0);
        return x;
    }

    private static void verdictThatFindsNothing() {
        LeftAsItWasTest half = new LeftAsItWasTest("half", LeftAsItWasTest::halfBroken, 0, 1);
        half.due("verdict(1)", x -> x.verdict(1), -1);
        half.due("verdict(0) again", x -> x.verdict(0), 0);
        half.due("closure(1) again", x -> x.closure(1), 1);
    }

    private static void tellsThatAreTaken(LeftAsItWasTest some) {
        some.due("source(300, 0, 0)", x -> x.source(300, 0, 0), 3, "source");
        some.due("fetched(0, true)", x -> x.fetched(0, true), true);
        some.due("fetched(1, false) again", x -> x.fetched(1, false), true);
        some.due("fetched(0, false)", x -> x.fetched(0, false), true, "breaks", "verdict");
        some.due("fetched(1, true)", x -> x.fetched(1, true), true, "breaks", "verdict");
        some.due("artefact(7, ..)", x -> x.artefact(7, 0, 0, 0, 0), 5, "artefact");
        some.due("artefact(99, ..)", x -> x.artefact(99, 0, 0, 0, 0), 5,
                "artefact", "closure", "missing", "verdict", "breaks");
        some.due("artefact(40, 1, ..)", x -> x.artefact(40, 1, 0, 0, 0), 5,
                "artefact", "clash", "verdict", "breaks");
        some.due("uses(4, 2)", x -> x.uses(4, 2), true,
                "holds", "verdict", "breaks", "differ", "clash");
        some.due("needs(4, 5)", x -> x.needs(4, 5), true,
                "missing", "verdict", "breaks", "differ", "clash");
        some.due("needs(0, 40)", x -> x.needs(0, 40), true,
                "closure", "holds", "verdict", "breaks", "differ", "clash");
        some.due("path(0, 3, 11) again", x -> x.path(0, 3, 11), true);
        some.due("path(0, 3, 12)", x -> x.path(0, 3, 12), true, "rebuilt");
        some.due("path(4, 0, 0)", x -> x.path(4, 0, 0), true, "rebuilt");
        some.due("policy(5, 0)", x -> x.policy(5, 0), 10, "policy", "breaks", "verdict");
    }

    private static void refusedByAFullOne() {
        LeftAsItWasTest full = new LeftAsItWasTest("full", LeftAsItWasTest::full, 0, 1, 30, 31);
        full.due("source(1, 0, 0)", x -> x.source(1, 0, 0), NONE);
        full.due("artefact(1000, 1, ..)", x -> x.artefact(1000, 1, 0, 0, 0), NONE);
        full.due("artefact(99, ..)", x -> x.artefact(99, 0, 0, 0, 0), NONE);
        full.due("uses(0, 6)", x -> x.uses(0, 6), false);
        full.due("uses(0, 5)", x -> x.uses(0, 5), false);
        full.due("needs(31, 1006)", x -> x.needs(31, 1006), false);
        full.due("needs(31, 1005)", x -> x.needs(31, 1005), false);
        full.due("policy(8, 0)", x -> x.policy(8, 0), NONE);
        full.due("fetched(24, false)", x -> x.fetched(24, false), false);
        full.due("verdict(32)", x -> x.verdict(32), -2);
        full.due("closure(32)", x -> x.closure(32), NONE);
        full.due("breaks(0, 16)", x -> x.breaks(0, 16), false);
        full.due("at(7)", x -> x.at(7), NONE);
    }
}
