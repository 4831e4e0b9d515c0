/** Promises 9 to 11 and the kinds of rules: verdict, culprit and breaks. */
public final class PolicyTest {
    private static final Check CHECK = new Check();

    public static void main(String[] args) {
        kind0AsksForBuilders();
        kind1AsksForTools();
        kind2AsksForBranches();
        kind3AsksForReviews();
        kind4AsksForDigestsTold();
        kind5AsksForWhatMeetsNeeds();
        kind6AsksForTimes();
        kind7AsksWhetherRowsAgree();
        kind7LooksAtTheFirstAndTheLast();
        kind7ComparesRowsInOrder();
        kind8AsksForSourcesOrNeeds();
        kind9CountsTheClosure();
        breaksAsksForBoth();
        breaksAsksTheArtefactAlone();
        verdictAsksForAnArtefact();
        verdictGoesByArtefactsFirst();
        verdictAsksRulesInOrder();
        verdictReachesTheWholeRing();
        culpritStaysUntilTheNextBrokenRule();
        verdictWithCountingRules();
        CHECK.end();
    }

    private static ProvenanceRows oneArtefact(int builder, int tool, int author, int time) {
        ProvenanceRows x = new ProvenanceRows();
        x.artefact(1000, builder, tool, author, time);
        return x;
    }

    /** Whether the only artefact breaks a rule of the kind with each value. */
    private static void dueForValue(ProvenanceRows x, int kind, int v, boolean want) {
        int rule = x.policy(kind, v);
        CHECK.due("kind " + kind + " with " + v, x.breaks(0, rule), want);
    }

    private static void kind0AsksForBuilders() {
        for (int builder = 0; builder < 8; builder++) {
            ProvenanceRows x = oneArtefact(builder, (builder + 1) % 8, 0, 0);
            dueForValue(x, 0, 1 << builder, false);
            dueForValue(x, 0, 255 ^ 1 << builder, true);
            dueForValue(x, 0, 0, true);
            dueForValue(x, 0, -1, false);
        }
        ProvenanceRows unknown = oneArtefact(-1, 0, 0, 0);
        dueForValue(unknown, 0, -1, true);
        dueForValue(unknown, 0, Integer.MIN_VALUE, true);
        dueForValue(unknown, 0, 255, true);
    }

    private static void kind1AsksForTools() {
        for (int tool = 0; tool < 8; tool++) {
            ProvenanceRows x = oneArtefact((tool + 1) % 8, tool, 0, 0);
            dueForValue(x, 1, 1 << tool, false);
            dueForValue(x, 1, 255 ^ 1 << tool, true);
            dueForValue(x, 1, 0, true);
        }
    }

    private static void kind2AsksForBranches() {
        ProvenanceRows x = oneArtefact(0, 0, 0, 0);
        dueForValue(x, 2, 0, false);
        x.source(1, 3, 0);
        x.source(2, 7, 0);
        x.uses(0, 0);
        dueForValue(x, 2, 8, false);
        dueForValue(x, 2, 255 ^ 8, true);
        x.uses(0, 1);
        dueForValue(x, 2, 8, true);
        dueForValue(x, 2, 8 + 128, false);
        dueForValue(x, 2, 128, true);
    }

    private static void kind3AsksForReviews() {
        ProvenanceRows x = oneArtefact(0, 0, 15, 0);
        dueForValue(x, 3, Integer.MAX_VALUE, false);
        x.source(1, 0, 0x8003);
        x.uses(0, 0);
        dueForValue(x, 3, 2, false);
        dueForValue(x, 3, 3, true);
        x.source(2, 0, 0x0004);
        x.uses(0, 1);
        dueForValue(x, 3, 1, false);
        dueForValue(x, 3, 2, true);
        dueForValue(x, 3, 0, false);
        dueForValue(x, 3, Integer.MIN_VALUE, false);
        dueForValue(x, 3, Integer.MAX_VALUE, true);
        ProvenanceRows alone = oneArtefact(0, 0, 4, 0);
        alone.source(1, 0, 1 << 4);
        alone.uses(0, 0);
        dueForValue(alone, 3, 0, false);
        dueForValue(alone, 3, 1, true);
    }

    private static void kind4AsksForDigestsTold() {
        ProvenanceRows x = oneArtefact(0, 0, 0, 0);
        x.source(1, 0, 0);
        x.source(2, 0, 0);
        x.source(3, 0, 0);
        x.fetched(1, false);
        x.uses(0, 0);
        dueForValue(x, 4, 0, false);
        x.uses(0, 2);
        x.uses(0, 1);
        dueForValue(x, 4, 0, true);
        x.fetched(1, true);
        dueForValue(x, 4, -1, false);
        ProvenanceRows unused = Check.with(1, 1);
        unused.fetched(0, false);
        dueForValue(unused, 4, 0, false);
    }

    private static void kind5AsksForWhatMeetsNeeds() {
        ProvenanceRows x = oneArtefact(0, 0, 0, 0);
        dueForValue(x, 5, 0, false);
        x.needs(0, 1000);
        dueForValue(x, 5, 0, false);
        x.needs(0, 2000);
        dueForValue(x, 5, 0, true);
        x.artefact(2000, 0, 0, 0, 0);
        dueForValue(x, 5, 0, false);
    }

    private static void kind6AsksForTimes() {
        ProvenanceRows x = oneArtefact(0, 0, 0, 100);
        x.needs(0, 1);
        dueForValue(x, 6, Integer.MIN_VALUE, false);
        x.artefact(1, 0, 0, 0, 130);
        x.artefact(1, 0, 0, 0, 1000000000);
        dueForValue(x, 6, 30, false);
        dueForValue(x, 6, 29, true);
        x.artefact(2, 0, 0, 0, 1000000000);
        x.needs(0, 2);
        dueForValue(x, 6, 30, true);
        dueForValue(x, 6, 999999899, true);
        dueForValue(x, 6, 999999900, false);
        ProvenanceRows late = oneArtefact(0, 0, 0, 1000000000);
        late.artefact(1, 0, 0, 0, 0);
        late.needs(0, 1);
        dueForValue(late, 6, -1000000000, false);
        dueForValue(late, 6, -1000000001, true);
        dueForValue(late, 6, 0, false);
        late.needs(0, 1000);
        dueForValue(late, 6, -1, true);
        dueForValue(late, 6, 0, false);
        late.policy(6, Integer.MIN_VALUE);
        CHECK.due("one without needs has none that is later", late.breaks(1, 5), false);
    }

    private static void kind7AsksWhetherRowsAgree() {
        ProvenanceRows x = oneArtefact(1, 2, 3, 4);
        x.artefact(1000, 1, 2, 9, 8);
        x.artefact(1001, 5, 5, 5, 5);
        dueForValue(x, 7, 0, false);
        x.path(1, 1, 1);
        dueForValue(x, 7, 0, false);
        x.artefact(1000, 1, 3, 3, 4);
        dueForValue(x, 7, 0, true);
        CHECK.due("the second breaks it too", x.breaks(1, 0), true);
        CHECK.due("the other digest doesn't", x.breaks(2, 0), false);
        CHECK.due("the last breaks it", x.breaks(3, 0), true);
        ProvenanceRows unknown = oneArtefact(-1, 0, 0, 0);
        unknown.artefact(1000, -1, 0, 0, 0);
        dueForValue(unknown, 7, 0, false);
        unknown.artefact(1000, 0, 0, 0, 0);
        dueForValue(unknown, 7, 0, true);
    }

    private static void kind7LooksAtTheFirstAndTheLast() {
        ProvenanceRows two = oneArtefact(0, 0, 0, 0);
        two.artefact(1000, 1, 0, 0, 0);
        two.policy(7, 0);
        CHECK.due("the first doesn't agree with the second", two.breaks(0, 0), true);
        CHECK.due("the second doesn't agree with the first", two.breaks(1, 0), true);
        ProvenanceRows zero = new ProvenanceRows();
        zero.artefact(0, 1, 1, 1, 1);
        dueForValue(zero, 7, 0, false);
        ProvenanceRows full = Check.withArtefacts(31);
        full.artefact(1000, 0, 1, 0, 0);
        dueForValue(full, 7, 0, true);
        CHECK.due("the last of 32", full.breaks(31, 0), true);
        CHECK.due("another of 32", full.breaks(30, 0), false);
    }

    private static void kind7ComparesRowsInOrder() {
        ProvenanceRows x = new ProvenanceRows();
        x.artefact(1, 0, 0, 0, 0);
        x.artefact(1, 0, 0, 0, 0);
        x.source(7, 0, 0);
        x.source(7, 0, 0);
        x.uses(0, 0);
        x.uses(0, 1);
        x.uses(1, 1);
        dueForValue(x, 7, 0, true);
        x.uses(1, 0);
        dueForValue(x, 7, 0, true);
        ProvenanceRows y = new ProvenanceRows();
        y.artefact(1, 0, 0, 0, 0);
        y.artefact(1, 0, 0, 0, 0);
        y.needs(0, 1L << 40);
        dueForValue(y, 7, 0, true);
        y.needs(1, 0);
        dueForValue(y, 7, 0, true);
        y.needs(0, 0);
        y.needs(1, 1L << 40);
        dueForValue(y, 7, 0, true);
        ProvenanceRows same = new ProvenanceRows();
        same.artefact(1, 0, 0, 0, 0);
        same.artefact(1, 0, 0, 0, 0);
        same.source(7, 0, 0);
        same.uses(0, 0);
        same.uses(1, 0);
        same.needs(0, 3);
        same.needs(1, 3);
        dueForValue(same, 7, 0, false);
    }

    private static void kind8AsksForSourcesOrNeeds() {
        ProvenanceRows x = Check.with(3, 1);
        x.policy(8, 0);
        x.uses(1, 0);
        x.needs(2, 5);
        x.path(0, 0, 1);
        CHECK.due("neither", x.breaks(0, 0), true);
        CHECK.due("a source", x.breaks(1, 0), false);
        CHECK.due("a need", x.breaks(2, 0), false);
    }

    private static void kind9CountsTheClosure() {
        ProvenanceRows x = Check.withArtefacts(3);
        x.needs(0, 1001);
        x.needs(1, 1002);
        x.needs(2, 1000);
        dueForValue(x, 9, 2, true);
        dueForValue(x, 9, 3, false);
        dueForValue(x, 9, -1, true);
        dueForValue(x, 9, Integer.MAX_VALUE, false);
    }

    private static void breaksAsksForBoth() {
        ProvenanceRows x = Check.withArtefacts(1);
        x.policy(8, 0);
        for (int wrong : Check.WRONG_NUMBERS) {
            CHECK.due("breaks(" + wrong + ", 0)", x.breaks(wrong, 0), false);
            CHECK.due("breaks(0, " + wrong + ")", x.breaks(0, wrong), false);
        }
        CHECK.due("breaks(1, 0)", x.breaks(1, 0), false);
        CHECK.due("breaks(0, 1)", x.breaks(0, 1), false);
        CHECK.due("breaks(0, 0)", x.breaks(0, 0), true);
    }

    private static void breaksAsksTheArtefactAlone() {
        ProvenanceRows x = Check.withArtefacts(2);
        x.needs(0, 1001);
        x.policy(8, 0);
        CHECK.due("breaks(0, 0)", x.breaks(0, 0), false);
        CHECK.due("verdict(0)", x.verdict(0), 0);
        CHECK.due("culprit()", x.culprit(), 1);
        CHECK.due("breaks(0, 0) afterwards", x.breaks(0, 0), false);
        CHECK.due("culprit() after breaks", x.culprit(), 1);
    }

    private static void verdictAsksForAnArtefact() {
        ProvenanceRows x = Check.withArtefacts(1);
        CHECK.due("verdict without rules", x.verdict(0), -1);
        x.policy(8, 0);
        for (int wrong : Check.WRONG_NUMBERS) {
            CHECK.due("verdict(" + wrong + ")", x.verdict(wrong), -2);
        }
        CHECK.due("verdict(1)", x.verdict(1), -2);
        CHECK.due("culprit()", x.culprit(), -1);
        CHECK.due("verdict(0)", x.verdict(0), 0);
    }

    private static void verdictGoesByArtefactsFirst() {
        ProvenanceRows x = new ProvenanceRows();
        x.artefact(1, 0, 0, 0, 0);
        x.artefact(2, 1, 0, 0, 0);
        x.artefact(3, 0, 1, 0, 0);
        x.needs(0, 3);
        x.needs(0, 2);
        x.policy(0, 1);
        x.policy(1, 1);
        CHECK.due("verdict(0)", x.verdict(0), 1);
        CHECK.due("culprit(): the first in the closure", x.culprit(), 2);
        CHECK.due("verdict(1)", x.verdict(1), 0);
        CHECK.due("culprit()", x.culprit(), 1);
    }

    private static void verdictAsksRulesInOrder() {
        ProvenanceRows x = Check.withArtefacts(1);
        x.policy(5, 0);
        x.policy(1, 0);
        x.policy(0, 0);
        CHECK.due("verdict(0)", x.verdict(0), 1);
        CHECK.due("breaks(0, 2)", x.breaks(0, 2), true);
    }

    private static void verdictReachesTheWholeRing() {
        ProvenanceRows x = Check.withArtefacts(32);
        for (int k = 0; k < 32; k++) {
            x.needs(k, 1000 + (k + 1) % 32);
        }
        x.policy(5, 0);
        CHECK.due("nothing broken in the ring", x.verdict(5), -1);
        x.needs(4, 9);
        CHECK.due("the last of the ring", x.verdict(5), 0);
        CHECK.due("culprit()", x.culprit(), 4);
    }

    private static void culpritStaysUntilTheNextBrokenRule() {
        ProvenanceRows x = Check.with(3, 1);
        x.uses(2, 0);
        x.policy(8, 0);
        CHECK.due("culprit() before", x.culprit(), -1);
        CHECK.due("verdict(2)", x.verdict(2), -1);
        CHECK.due("culprit() still", x.culprit(), -1);
        CHECK.due("verdict(1)", x.verdict(1), 0);
        CHECK.due("culprit()", x.culprit(), 1);
        CHECK.due("verdict(2) again", x.verdict(2), -1);
        CHECK.due("culprit() stays after -1", x.culprit(), 1);
        CHECK.due("verdict(7)", x.verdict(7), -2);
        CHECK.due("culprit() stays after -2", x.culprit(), 1);
        CHECK.due("verdict(0)", x.verdict(0), 0);
        CHECK.due("culprit() is the latest", x.culprit(), 0);
    }

    /** Rules of kind 9 walk closures of their own while a verdict walks one. */
    private static void verdictWithCountingRules() {
        ProvenanceRows x = Check.withArtefacts(6);
        x.needs(0, 1001);
        x.needs(0, 1002);
        x.needs(2, 1003);
        x.needs(3, 1004);
        x.needs(4, 1005);
        x.policy(9, 6);
        x.policy(1, 1);
        CHECK.due("nothing broken", x.verdict(0), -1);
        x.needs(5, 77);
        x.policy(5, 0);
        CHECK.due("the last one breaks", x.verdict(0), 2);
        CHECK.due("culprit()", x.culprit(), 5);
        x.policy(9, 0);
        CHECK.due("an earlier one breaks a later rule", x.verdict(0), 3);
        CHECK.due("culprit()", x.culprit(), 0);
    }
}
